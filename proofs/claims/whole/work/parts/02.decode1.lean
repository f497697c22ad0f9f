theorem dX0_init_0 : decode cX0_init 0 = .ok (.aload_n 0, 1) := by decide +kernel
theorem dX0_init_1 : decode cX0_init 1 = .ok (.invokespecial 3, 3) := by decide +kernel
theorem dX0_init_4 : decode cX0_init 4 = .ok (.aload_n 0, 1) := by decide +kernel
theorem dX0_init_5 : decode cX0_init 5 = .ok (.iconst 3, 1) := by decide +kernel
theorem dX0_init_6 : decode cX0_init 6 = .ok (.newarray .int, 2) := by decide +kernel
theorem dX0_init_8 : decode cX0_init 8 = .ok (.putfield 11, 3) := by decide +kernel
theorem dX0_init_11 : decode cX0_init 11 = .ok (.aload_n 0, 1) := by decide +kernel
theorem dX0_init_12 : decode cX0_init 12 = .ok (.bipush 7, 2) := by decide +kernel
theorem dX0_init_14 : decode cX0_init 14 = .ok (.newarray .int, 2) := by decide +kernel
theorem dX0_init_16 : decode cX0_init 16 = .ok (.putfield 15, 3) := by decide +kernel
theorem dX0_init_19 : decode cX0_init 19 = .ok (.aload_n 0, 1) := by decide +kernel
theorem dX0_init_20 : decode cX0_init 20 = .ok (.bipush 7, 2) := by decide +kernel
theorem dX0_init_22 : decode cX0_init 22 = .ok (.newarray .int, 2) := by decide +kernel
theorem dX0_init_24 : decode cX0_init 24 = .ok (.putfield 18, 3) := by decide +kernel
theorem dX0_init_27 : decode cX0_init 27 = .ok (.aload_n 0, 1) := by decide +kernel
theorem dX0_init_28 : decode cX0_init 28 = .ok (.bipush 7, 2) := by decide +kernel
theorem dX0_init_30 : decode cX0_init 30 = .ok (.newarray .int, 2) := by decide +kernel
theorem dX0_init_32 : decode cX0_init 32 = .ok (.putfield 21, 3) := by decide +kernel
theorem dX0_init_35 : decode cX0_init 35 = .ok (.aload_n 0, 1) := by decide +kernel
theorem dX0_init_36 : decode cX0_init 36 = .ok (.bipush 7, 2) := by decide +kernel
theorem dX0_init_38 : decode cX0_init 38 = .ok (.newarray .int, 2) := by decide +kernel
theorem dX0_init_40 : decode cX0_init 40 = .ok (.putfield 24, 3) := by decide +kernel
theorem dX0_init_43 : decode cX0_init 43 = .ok (.aload_n 0, 1) := by decide +kernel
theorem dX0_init_44 : decode cX0_init 44 = .ok (.bipush 7, 2) := by decide +kernel
theorem dX0_init_46 : decode cX0_init 46 = .ok (.newarray .int, 2) := by decide +kernel
theorem dX0_init_48 : decode cX0_init 48 = .ok (.putfield 27, 3) := by decide +kernel
theorem dX0_init_51 : decode cX0_init 51 = .ok (.aload_n 0, 1) := by decide +kernel
theorem dX0_init_52 : decode cX0_init 52 = .ok (.getfield 11, 3) := by decide +kernel
theorem dX0_init_55 : decode cX0_init 55 = .ok (.iconst 0, 1) := by decide +kernel
theorem dX0_init_56 : decode cX0_init 56 = .ok (.bipush 20, 2) := by decide +kernel
theorem dX0_init_58 : decode cX0_init 58 = .ok (.invokestatic 30, 3) := by decide +kernel
theorem dX0_init_61 : decode cX0_init 61 = .ok (.aload_n 0, 1) := by decide +kernel
theorem dX0_init_62 : decode cX0_init 62 = .ok (.getfield 11, 3) := by decide +kernel
theorem dX0_init_65 : decode cX0_init 65 = .ok (.iconst 1, 1) := by decide +kernel
theorem dX0_init_66 : decode cX0_init 66 = .ok (.bipush 100, 2) := by decide +kernel
theorem dX0_init_68 : decode cX0_init 68 = .ok (.invokestatic 30, 3) := by decide +kernel
theorem dX0_init_71 : decode cX0_init 71 = .ok (.aload_n 0, 1) := by decide +kernel
theorem dX0_init_72 : decode cX0_init 72 = .ok (.getfield 11, 3) := by decide +kernel
theorem dX0_init_75 : decode cX0_init 75 = .ok (.iconst 2, 1) := by decide +kernel
theorem dX0_init_76 : decode cX0_init 76 = .ok (.iconst 3, 1) := by decide +kernel
theorem dX0_init_77 : decode cX0_init 77 = .ok (.invokestatic 30, 3) := by decide +kernel
theorem dX0_init_80 : decode cX0_init 80 = .ok (.aload_n 0, 1) := by decide +kernel
theorem dX0_init_81 : decode cX0_init 81 = .ok (.iconst 0, 1) := by decide +kernel
theorem dX0_init_82 : decode cX0_init 82 = .ok (.putfield 36, 3) := by decide +kernel
theorem dX0_init_85 : decode cX0_init 85 = .ok (.aload_n 0, 1) := by decide +kernel
theorem dX0_init_86 : decode cX0_init 86 = .ok (.iconst (-1), 1) := by decide +kernel
theorem dX0_init_87 : decode cX0_init 87 = .ok (.putfield 40, 3) := by decide +kernel
theorem dX0_init_90 : decode cX0_init 90 = .ok (.return_, 1) := by decide +kernel
theorem dX0_becomeLike_0 : decode cX0_becomeLike 0 = .ok (.aload_n 1, 1) := by decide +kernel
theorem dX0_becomeLike_1 : decode cX0_becomeLike 1 = .ok (.getfield 11, 3) := by decide +kernel
theorem dX0_becomeLike_4 : decode cX0_becomeLike 4 = .ok (.aload_n 0, 1) := by decide +kernel
theorem dX0_becomeLike_5 : decode cX0_becomeLike 5 = .ok (.getfield 11, 3) := by decide +kernel
theorem dX0_becomeLike_8 : decode cX0_becomeLike 8 = .ok (.invokestatic 43, 3) := by decide +kernel
theorem dX0_becomeLike_11 : decode cX0_becomeLike 11 = .ok (.aload_n 1, 1) := by decide +kernel
theorem dX0_becomeLike_12 : decode cX0_becomeLike 12 = .ok (.getfield 15, 3) := by decide +kernel
theorem dX0_becomeLike_15 : decode cX0_becomeLike 15 = .ok (.aload_n 0, 1) := by decide +kernel
theorem dX0_becomeLike_16 : decode cX0_becomeLike 16 = .ok (.getfield 15, 3) := by decide +kernel
theorem dX0_becomeLike_19 : decode cX0_becomeLike 19 = .ok (.invokestatic 43, 3) := by decide +kernel
theorem dX0_becomeLike_22 : decode cX0_becomeLike 22 = .ok (.aload_n 1, 1) := by decide +kernel
theorem dX0_becomeLike_23 : decode cX0_becomeLike 23 = .ok (.getfield 18, 3) := by decide +kernel
theorem dX0_becomeLike_26 : decode cX0_becomeLike 26 = .ok (.aload_n 0, 1) := by decide +kernel
theorem dX0_becomeLike_27 : decode cX0_becomeLike 27 = .ok (.getfield 18, 3) := by decide +kernel
theorem dX0_becomeLike_30 : decode cX0_becomeLike 30 = .ok (.invokestatic 43, 3) := by decide +kernel
theorem dX0_becomeLike_33 : decode cX0_becomeLike 33 = .ok (.aload_n 1, 1) := by decide +kernel
theorem dX0_becomeLike_34 : decode cX0_becomeLike 34 = .ok (.getfield 21, 3) := by decide +kernel
theorem dX0_becomeLike_37 : decode cX0_becomeLike 37 = .ok (.aload_n 0, 1) := by decide +kernel
theorem dX0_becomeLike_38 : decode cX0_becomeLike 38 = .ok (.getfield 21, 3) := by decide +kernel
theorem dX0_becomeLike_41 : decode cX0_becomeLike 41 = .ok (.invokestatic 43, 3) := by decide +kernel
theorem dX0_becomeLike_44 : decode cX0_becomeLike 44 = .ok (.aload_n 1, 1) := by decide +kernel
theorem dX0_becomeLike_45 : decode cX0_becomeLike 45 = .ok (.getfield 24, 3) := by decide +kernel
theorem dX0_becomeLike_48 : decode cX0_becomeLike 48 = .ok (.aload_n 0, 1) := by decide +kernel
theorem dX0_becomeLike_49 : decode cX0_becomeLike 49 = .ok (.getfield 24, 3) := by decide +kernel
theorem dX0_becomeLike_52 : decode cX0_becomeLike 52 = .ok (.invokestatic 43, 3) := by decide +kernel
theorem dX0_becomeLike_55 : decode cX0_becomeLike 55 = .ok (.aload_n 1, 1) := by decide +kernel
theorem dX0_becomeLike_56 : decode cX0_becomeLike 56 = .ok (.getfield 27, 3) := by decide +kernel
theorem dX0_becomeLike_59 : decode cX0_becomeLike 59 = .ok (.aload_n 0, 1) := by decide +kernel
theorem dX0_becomeLike_60 : decode cX0_becomeLike 60 = .ok (.getfield 27, 3) := by decide +kernel
theorem dX0_becomeLike_63 : decode cX0_becomeLike 63 = .ok (.invokestatic 43, 3) := by decide +kernel
theorem dX0_becomeLike_66 : decode cX0_becomeLike 66 = .ok (.aload_n 0, 1) := by decide +kernel
theorem dX0_becomeLike_67 : decode cX0_becomeLike 67 = .ok (.aload_n 1, 1) := by decide +kernel
theorem dX0_becomeLike_68 : decode cX0_becomeLike 68 = .ok (.getfield 36, 3) := by decide +kernel
theorem dX0_becomeLike_71 : decode cX0_becomeLike 71 = .ok (.putfield 36, 3) := by decide +kernel
theorem dX0_becomeLike_74 : decode cX0_becomeLike 74 = .ok (.aload_n 0, 1) := by decide +kernel
theorem dX0_becomeLike_75 : decode cX0_becomeLike 75 = .ok (.aload_n 1, 1) := by decide +kernel
theorem dX0_becomeLike_76 : decode cX0_becomeLike 76 = .ok (.getfield 40, 3) := by decide +kernel
theorem dX0_becomeLike_79 : decode cX0_becomeLike 79 = .ok (.putfield 40, 3) := by decide +kernel
theorem dX0_becomeLike_82 : decode cX0_becomeLike 82 = .ok (.return_, 1) := by decide +kernel
theorem dX0_pump_0 : decode cX0_pump 0 = .ok (.aload_n 0, 1) := by decide +kernel
theorem dX0_pump_1 : decode cX0_pump 1 = .ok (.getfield 11, 3) := by decide +kernel
theorem dX0_pump_4 : decode cX0_pump 4 = .ok (.iconst 0, 1) := by decide +kernel
theorem dX0_pump_5 : decode cX0_pump 5 = .ok (.invokestatic 47, 3) := by decide +kernel
theorem dX0_pump_8 : decode cX0_pump 8 = .ok (.ireturn, 1) := by decide +kernel
theorem dX0_oil_0 : decode cX0_oil 0 = .ok (.aload_n 0, 1) := by decide +kernel
theorem dX0_oil_1 : decode cX0_oil 1 = .ok (.getfield 11, 3) := by decide +kernel
theorem dX0_oil_4 : decode cX0_oil 4 = .ok (.iconst 1, 1) := by decide +kernel
theorem dX0_oil_5 : decode cX0_oil 5 = .ok (.invokestatic 47, 3) := by decide +kernel
theorem dX0_oil_8 : decode cX0_oil 8 = .ok (.ireturn, 1) := by decide +kernel
theorem dX0_dark_0 : decode cX0_dark 0 = .ok (.aload_n 0, 1) := by decide +kernel
theorem dX0_dark_1 : decode cX0_dark 1 = .ok (.getfield 11, 3) := by decide +kernel
theorem dX0_dark_4 : decode cX0_dark 4 = .ok (.iconst 2, 1) := by decide +kernel
theorem dX0_dark_5 : decode cX0_dark 5 = .ok (.invokestatic 47, 3) := by decide +kernel
theorem dX0_dark_8 : decode cX0_dark 8 = .ok (.ireturn, 1) := by decide +kernel
theorem dX0_knows_0 : decode cX0_knows 0 = .ok (.iload_n 1, 1) := by decide +kernel
theorem dX0_knows_1 : decode cX0_knows 1 = .ok (.ifCond .lt 15, 3) := by decide +kernel
theorem dX0_knows_4 : decode cX0_knows 4 = .ok (.iload_n 1, 1) := by decide +kernel
theorem dX0_knows_5 : decode cX0_knows 5 = .ok (.aload_n 0, 1) := by decide +kernel
theorem dX0_knows_6 : decode cX0_knows 6 = .ok (.getfield 36, 3) := by decide +kernel
theorem dX0_knows_9 : decode cX0_knows 9 = .ok (.if_icmp .ge 7, 3) := by decide +kernel
theorem dX0_knows_12 : decode cX0_knows 12 = .ok (.iconst 1, 1) := by decide +kernel
theorem dX0_knows_13 : decode cX0_knows 13 = .ok (.goto 4, 3) := by decide +kernel
theorem dX0_knows_16 : decode cX0_knows 16 = .ok (.iconst 0, 1) := by decide +kernel
theorem dX0_knows_17 : decode cX0_knows 17 = .ok (.ireturn, 1) := by decide +kernel
theorem dX0_settle_0 : decode cX0_settle 0 = .ok (.iload_n 2, 1) := by decide +kernel
theorem dX0_settle_1 : decode cX0_settle 1 = .ok (.getstatic 51, 3) := by decide +kernel
theorem dX0_settle_4 : decode cX0_settle 4 = .ok (.iload_n 1, 1) := by decide +kernel
theorem dX0_settle_5 : decode cX0_settle 5 = .ok (.invokestatic 47, 3) := by decide +kernel
theorem dX0_settle_8 : decode cX0_settle 8 = .ok (.if_icmp .le 5, 3) := by decide +kernel
theorem dX0_settle_11 : decode cX0_settle 11 = .ok (.iconst 0, 1) := by decide +kernel
theorem dX0_settle_12 : decode cX0_settle 12 = .ok (.ireturn, 1) := by decide +kernel
theorem dX0_settle_13 : decode cX0_settle 13 = .ok (.aload_n 0, 1) := by decide +kernel
theorem dX0_settle_14 : decode cX0_settle 14 = .ok (.getfield 11, 3) := by decide +kernel
theorem dX0_settle_17 : decode cX0_settle 17 = .ok (.iload_n 1, 1) := by decide +kernel
theorem dX0_settle_18 : decode cX0_settle 18 = .ok (.iload_n 2, 1) := by decide +kernel
theorem dX0_settle_19 : decode cX0_settle 19 = .ok (.invokestatic 30, 3) := by decide +kernel
theorem dX0_settle_22 : decode cX0_settle 22 = .ok (.iconst 1, 1) := by decide +kernel
theorem dX0_settle_23 : decode cX0_settle 23 = .ok (.ireturn, 1) := by decide +kernel
theorem dX0_add_0 : decode cX0_add 0 = .ok (.aload_n 0, 1) := by decide +kernel
theorem dX0_add_1 : decode cX0_add 1 = .ok (.getfield 36, 3) := by decide +kernel
theorem dX0_add_4 : decode cX0_add 4 = .ok (.bipush 7, 2) := by decide +kernel
theorem dX0_add_6 : decode cX0_add 6 = .ok (.if_icmp .ge 23, 3) := by decide +kernel
theorem dX0_add_9 : decode cX0_add 9 = .ok (.iload_n 3, 1) := by decide +kernel
theorem dX0_add_10 : decode cX0_add 10 = .ok (.bipush 40, 2) := by decide +kernel
theorem dX0_add_12 : decode cX0_add 12 = .ok (.if_icmp .ge 17, 3) := by decide +kernel
theorem dX0_add_15 : decode cX0_add 15 = .ok (.iload 4, 2) := by decide +kernel
theorem dX0_add_17 : decode cX0_add 17 = .ok (.bipush 40, 2) := by decide +kernel
theorem dX0_add_19 : decode cX0_add 19 = .ok (.if_icmp .ge 10, 3) := by decide +kernel
theorem dX0_add_22 : decode cX0_add 22 = .ok (.iload 5, 2) := by decide +kernel
theorem dX0_add_24 : decode cX0_add 24 = .ok (.bipush 12, 2) := by decide +kernel
theorem dX0_add_26 : decode cX0_add 26 = .ok (.if_icmp .lt 5, 3) := by decide +kernel
theorem dX0_add_29 : decode cX0_add 29 = .ok (.iconst 0, 1) := by decide +kernel
theorem dX0_add_30 : decode cX0_add 30 = .ok (.ireturn, 1) := by decide +kernel
theorem dX0_add_31 : decode cX0_add 31 = .ok (.aload_n 0, 1) := by decide +kernel
theorem dX0_add_32 : decode cX0_add 32 = .ok (.getfield 15, 3) := by decide +kernel
theorem dX0_add_35 : decode cX0_add 35 = .ok (.aload_n 0, 1) := by decide +kernel
theorem dX0_add_36 : decode cX0_add 36 = .ok (.getfield 36, 3) := by decide +kernel
theorem dX0_add_39 : decode cX0_add 39 = .ok (.iload_n 1, 1) := by decide +kernel
theorem dX0_add_40 : decode cX0_add 40 = .ok (.invokestatic 30, 3) := by decide +kernel
theorem dX0_add_43 : decode cX0_add 43 = .ok (.aload_n 0, 1) := by decide +kernel
theorem dX0_add_44 : decode cX0_add 44 = .ok (.getfield 18, 3) := by decide +kernel
theorem dX0_add_47 : decode cX0_add 47 = .ok (.aload_n 0, 1) := by decide +kernel
theorem dX0_add_48 : decode cX0_add 48 = .ok (.getfield 36, 3) := by decide +kernel
theorem dX0_add_51 : decode cX0_add 51 = .ok (.iload_n 2, 1) := by decide +kernel
theorem dX0_add_52 : decode cX0_add 52 = .ok (.invokestatic 30, 3) := by decide +kernel
theorem dX0_add_55 : decode cX0_add 55 = .ok (.aload_n 0, 1) := by decide +kernel
theorem dX0_add_56 : decode cX0_add 56 = .ok (.getfield 21, 3) := by decide +kernel
theorem dX0_add_59 : decode cX0_add 59 = .ok (.aload_n 0, 1) := by decide +kernel
theorem dX0_add_60 : decode cX0_add 60 = .ok (.getfield 36, 3) := by decide +kernel
theorem dX0_add_63 : decode cX0_add 63 = .ok (.iload_n 3, 1) := by decide +kernel
theorem dX0_add_64 : decode cX0_add 64 = .ok (.invokestatic 30, 3) := by decide +kernel
theorem dX0_add_67 : decode cX0_add 67 = .ok (.aload_n 0, 1) := by decide +kernel
theorem dX0_add_68 : decode cX0_add 68 = .ok (.getfield 24, 3) := by decide +kernel
theorem dX0_add_71 : decode cX0_add 71 = .ok (.aload_n 0, 1) := by decide +kernel
theorem dX0_add_72 : decode cX0_add 72 = .ok (.getfield 36, 3) := by decide +kernel
theorem dX0_add_75 : decode cX0_add 75 = .ok (.iload 4, 2) := by decide +kernel
theorem dX0_add_77 : decode cX0_add 77 = .ok (.invokestatic 30, 3) := by decide +kernel
theorem dX0_add_80 : decode cX0_add 80 = .ok (.aload_n 0, 1) := by decide +kernel
theorem dX0_add_81 : decode cX0_add 81 = .ok (.getfield 27, 3) := by decide +kernel
theorem dX0_add_84 : decode cX0_add 84 = .ok (.aload_n 0, 1) := by decide +kernel
theorem dX0_add_85 : decode cX0_add 85 = .ok (.getfield 36, 3) := by decide +kernel
theorem dX0_add_88 : decode cX0_add 88 = .ok (.iload 5, 2) := by decide +kernel
theorem dX0_add_90 : decode cX0_add 90 = .ok (.invokestatic 30, 3) := by decide +kernel
theorem dX0_add_93 : decode cX0_add 93 = .ok (.aload_n 0, 1) := by decide +kernel
theorem dX0_add_94 : decode cX0_add 94 = .ok (.dup, 1) := by decide +kernel
theorem dX0_add_95 : decode cX0_add 95 = .ok (.getfield 36, 3) := by decide +kernel
theorem dX0_add_98 : decode cX0_add 98 = .ok (.iconst 1, 1) := by decide +kernel
theorem dX0_add_99 : decode cX0_add 99 = .ok (.iadd, 1) := by decide +kernel
theorem dX0_add_100 : decode cX0_add 100 = .ok (.putfield 36, 3) := by decide +kernel
theorem dX0_add_103 : decode cX0_add 103 = .ok (.iconst 1, 1) := by decide +kernel
theorem dX0_add_104 : decode cX0_add 104 = .ok (.ireturn, 1) := by decide +kernel
theorem dX0_exchangeHours_0 : decode cX0_exchangeHours 0 = .ok (.aload_n 0, 1) := by decide +kernel
theorem dX0_exchangeHours_1 : decode cX0_exchangeHours 1 = .ok (.iload_n 1, 1) := by decide +kernel
theorem dX0_exchangeHours_2 : decode cX0_exchangeHours 2 = .ok (.invokevirtual 54, 3) := by decide +kernel
theorem dX0_exchangeHours_5 : decode cX0_exchangeHours 5 = .ok (.ifCond .eq 16, 3) := by decide +kernel
theorem dX0_exchangeHours_8 : decode cX0_exchangeHours 8 = .ok (.aload_n 0, 1) := by decide +kernel
theorem dX0_exchangeHours_9 : decode cX0_exchangeHours 9 = .ok (.iload_n 2, 1) := by decide +kernel
theorem dX0_exchangeHours_10 : decode cX0_exchangeHours 10 = .ok (.invokevirtual 54, 3) := by decide +kernel
theorem dX0_exchangeHours_13 : decode cX0_exchangeHours 13 = .ok (.ifCond .eq 8, 3) := by decide +kernel
theorem dX0_exchangeHours_16 : decode cX0_exchangeHours 16 = .ok (.iload_n 1, 1) := by decide +kernel
theorem dX0_exchangeHours_17 : decode cX0_exchangeHours 17 = .ok (.iload_n 2, 1) := by decide +kernel
theorem dX0_exchangeHours_18 : decode cX0_exchangeHours 18 = .ok (.if_icmp .ne 5, 3) := by decide +kernel
theorem dX0_exchangeHours_21 : decode cX0_exchangeHours 21 = .ok (.iconst 0, 1) := by decide +kernel
theorem dX0_exchangeHours_22 : decode cX0_exchangeHours 22 = .ok (.ireturn, 1) := by decide +kernel
theorem dX0_exchangeHours_23 : decode cX0_exchangeHours 23 = .ok (.aload_n 0, 1) := by decide +kernel
theorem dX0_exchangeHours_24 : decode cX0_exchangeHours 24 = .ok (.getfield 27, 3) := by decide +kernel
theorem dX0_exchangeHours_27 : decode cX0_exchangeHours 27 = .ok (.iload_n 1, 1) := by decide +kernel
theorem dX0_exchangeHours_28 : decode cX0_exchangeHours 28 = .ok (.iload_n 2, 1) := by decide +kernel
theorem dX0_exchangeHours_29 : decode cX0_exchangeHours 29 = .ok (.invokestatic 58, 3) := by decide +kernel
theorem dX0_exchangeHours_32 : decode cX0_exchangeHours 32 = .ok (.iconst 1, 1) := by decide +kernel
theorem dX0_exchangeHours_33 : decode cX0_exchangeHours 33 = .ok (.ireturn, 1) := by decide +kernel
theorem dX0_changeHour_0 : decode cX0_changeHour 0 = .ok (.aload_n 0, 1) := by decide +kernel
theorem dX0_changeHour_1 : decode cX0_changeHour 1 = .ok (.iload_n 1, 1) := by decide +kernel
theorem dX0_changeHour_2 : decode cX0_changeHour 2 = .ok (.invokevirtual 54, 3) := by decide +kernel
theorem dX0_changeHour_5 : decode cX0_changeHour 5 = .ok (.ifCond .eq 9, 3) := by decide +kernel
theorem dX0_changeHour_8 : decode cX0_changeHour 8 = .ok (.iload_n 2, 1) := by decide +kernel
theorem dX0_changeHour_9 : decode cX0_changeHour 9 = .ok (.bipush 12, 2) := by decide +kernel
theorem dX0_changeHour_11 : decode cX0_changeHour 11 = .ok (.if_icmp .lt 5, 3) := by decide +kernel
theorem dX0_changeHour_14 : decode cX0_changeHour 14 = .ok (.iconst 0, 1) := by decide +kernel
theorem dX0_changeHour_15 : decode cX0_changeHour 15 = .ok (.ireturn, 1) := by decide +kernel
theorem dX0_changeHour_16 : decode cX0_changeHour 16 = .ok (.aload_n 0, 1) := by decide +kernel
theorem dX0_changeHour_17 : decode cX0_changeHour 17 = .ok (.getfield 27, 3) := by decide +kernel
theorem dX0_changeHour_20 : decode cX0_changeHour 20 = .ok (.iload_n 1, 1) := by decide +kernel
theorem dX0_changeHour_21 : decode cX0_changeHour 21 = .ok (.iload_n 2, 1) := by decide +kernel
theorem dX0_changeHour_22 : decode cX0_changeHour 22 = .ok (.invokestatic 30, 3) := by decide +kernel
theorem dX0_changeHour_25 : decode cX0_changeHour 25 = .ok (.iconst 1, 1) := by decide +kernel
theorem dX0_changeHour_26 : decode cX0_changeHour 26 = .ok (.ireturn, 1) := by decide +kernel
theorem dX0_sendHome_0 : decode cX0_sendHome 0 = .ok (.iload_n 1, 1) := by decide +kernel
theorem dX0_sendHome_1 : decode cX0_sendHome 1 = .ok (.istore_n 2, 1) := by decide +kernel
theorem dX0_sendHome_2 : decode cX0_sendHome 2 = .ok (.iload_n 2, 1) := by decide +kernel
theorem dX0_sendHome_3 : decode cX0_sendHome 3 = .ok (.aload_n 0, 1) := by decide +kernel
theorem dX0_sendHome_4 : decode cX0_sendHome 4 = .ok (.getfield 36, 3) := by decide +kernel
theorem dX0_sendHome_7 : decode cX0_sendHome 7 = .ok (.iconst 1, 1) := by decide +kernel
theorem dX0_sendHome_8 : decode cX0_sendHome 8 = .ok (.isub, 1) := by decide +kernel
theorem dX0_sendHome_9 : decode cX0_sendHome 9 = .ok (.if_icmp .ge 99, 3) := by decide +kernel
theorem dX0_sendHome_12 : decode cX0_sendHome 12 = .ok (.aload_n 0, 1) := by decide +kernel
theorem dX0_sendHome_13 : decode cX0_sendHome 13 = .ok (.getfield 15, 3) := by decide +kernel
theorem dX0_sendHome_16 : decode cX0_sendHome 16 = .ok (.iload_n 2, 1) := by decide +kernel
theorem dX0_sendHome_17 : decode cX0_sendHome 17 = .ok (.aload_n 0, 1) := by decide +kernel
theorem dX0_sendHome_18 : decode cX0_sendHome 18 = .ok (.getfield 15, 3) := by decide +kernel
theorem dX0_sendHome_21 : decode cX0_sendHome 21 = .ok (.iload_n 2, 1) := by decide +kernel
theorem dX0_sendHome_22 : decode cX0_sendHome 22 = .ok (.iconst 1, 1) := by decide +kernel
theorem dX0_sendHome_23 : decode cX0_sendHome 23 = .ok (.iadd, 1) := by decide +kernel
theorem dX0_sendHome_24 : decode cX0_sendHome 24 = .ok (.invokestatic 47, 3) := by decide +kernel
theorem dX0_sendHome_27 : decode cX0_sendHome 27 = .ok (.invokestatic 30, 3) := by decide +kernel
theorem dX0_sendHome_30 : decode cX0_sendHome 30 = .ok (.aload_n 0, 1) := by decide +kernel
theorem dX0_sendHome_31 : decode cX0_sendHome 31 = .ok (.getfield 18, 3) := by decide +kernel
theorem dX0_sendHome_34 : decode cX0_sendHome 34 = .ok (.iload_n 2, 1) := by decide +kernel
theorem dX0_sendHome_35 : decode cX0_sendHome 35 = .ok (.aload_n 0, 1) := by decide +kernel
theorem dX0_sendHome_36 : decode cX0_sendHome 36 = .ok (.getfield 18, 3) := by decide +kernel
theorem dX0_sendHome_39 : decode cX0_sendHome 39 = .ok (.iload_n 2, 1) := by decide +kernel
theorem dX0_sendHome_40 : decode cX0_sendHome 40 = .ok (.iconst 1, 1) := by decide +kernel
theorem dX0_sendHome_41 : decode cX0_sendHome 41 = .ok (.iadd, 1) := by decide +kernel
theorem dX0_sendHome_42 : decode cX0_sendHome 42 = .ok (.invokestatic 47, 3) := by decide +kernel
theorem dX0_sendHome_45 : decode cX0_sendHome 45 = .ok (.invokestatic 30, 3) := by decide +kernel
theorem dX0_sendHome_48 : decode cX0_sendHome 48 = .ok (.aload_n 0, 1) := by decide +kernel
theorem dX0_sendHome_49 : decode cX0_sendHome 49 = .ok (.getfield 21, 3) := by decide +kernel
theorem dX0_sendHome_52 : decode cX0_sendHome 52 = .ok (.iload_n 2, 1) := by decide +kernel
theorem dX0_sendHome_53 : decode cX0_sendHome 53 = .ok (.aload_n 0, 1) := by decide +kernel
theorem dX0_sendHome_54 : decode cX0_sendHome 54 = .ok (.getfield 21, 3) := by decide +kernel
theorem dX0_sendHome_57 : decode cX0_sendHome 57 = .ok (.iload_n 2, 1) := by decide +kernel
theorem dX0_sendHome_58 : decode cX0_sendHome 58 = .ok (.iconst 1, 1) := by decide +kernel
theorem dX0_sendHome_59 : decode cX0_sendHome 59 = .ok (.iadd, 1) := by decide +kernel
theorem dX0_sendHome_60 : decode cX0_sendHome 60 = .ok (.invokestatic 47, 3) := by decide +kernel
theorem dX0_sendHome_63 : decode cX0_sendHome 63 = .ok (.invokestatic 30, 3) := by decide +kernel
theorem dX0_sendHome_66 : decode cX0_sendHome 66 = .ok (.aload_n 0, 1) := by decide +kernel
theorem dX0_sendHome_67 : decode cX0_sendHome 67 = .ok (.getfield 24, 3) := by decide +kernel
theorem dX0_sendHome_70 : decode cX0_sendHome 70 = .ok (.iload_n 2, 1) := by decide +kernel
theorem dX0_sendHome_71 : decode cX0_sendHome 71 = .ok (.aload_n 0, 1) := by decide +kernel
theorem dX0_sendHome_72 : decode cX0_sendHome 72 = .ok (.getfield 24, 3) := by decide +kernel
theorem dX0_sendHome_75 : decode cX0_sendHome 75 = .ok (.iload_n 2, 1) := by decide +kernel
theorem dX0_sendHome_76 : decode cX0_sendHome 76 = .ok (.iconst 1, 1) := by decide +kernel
theorem dX0_sendHome_77 : decode cX0_sendHome 77 = .ok (.iadd, 1) := by decide +kernel
theorem dX0_sendHome_78 : decode cX0_sendHome 78 = .ok (.invokestatic 47, 3) := by decide +kernel
theorem dX0_sendHome_81 : decode cX0_sendHome 81 = .ok (.invokestatic 30, 3) := by decide +kernel
theorem dX0_sendHome_84 : decode cX0_sendHome 84 = .ok (.aload_n 0, 1) := by decide +kernel
theorem dX0_sendHome_85 : decode cX0_sendHome 85 = .ok (.getfield 27, 3) := by decide +kernel
theorem dX0_sendHome_88 : decode cX0_sendHome 88 = .ok (.iload_n 2, 1) := by decide +kernel
theorem dX0_sendHome_89 : decode cX0_sendHome 89 = .ok (.aload_n 0, 1) := by decide +kernel
theorem dX0_sendHome_90 : decode cX0_sendHome 90 = .ok (.getfield 27, 3) := by decide +kernel
theorem dX0_sendHome_93 : decode cX0_sendHome 93 = .ok (.iload_n 2, 1) := by decide +kernel
theorem dX0_sendHome_94 : decode cX0_sendHome 94 = .ok (.iconst 1, 1) := by decide +kernel
theorem dX0_sendHome_95 : decode cX0_sendHome 95 = .ok (.iadd, 1) := by decide +kernel
theorem dX0_sendHome_96 : decode cX0_sendHome 96 = .ok (.invokestatic 47, 3) := by decide +kernel
theorem dX0_sendHome_99 : decode cX0_sendHome 99 = .ok (.invokestatic 30, 3) := by decide +kernel
theorem dX0_sendHome_102 : decode cX0_sendHome 102 = .ok (.iinc 2 1, 3) := by decide +kernel
theorem dX0_sendHome_105 : decode cX0_sendHome 105 = .ok (.goto (-103), 3) := by decide +kernel
theorem dX0_sendHome_108 : decode cX0_sendHome 108 = .ok (.aload_n 0, 1) := by decide +kernel
theorem dX0_sendHome_109 : decode cX0_sendHome 109 = .ok (.iload_n 1, 1) := by decide +kernel
theorem dX0_sendHome_110 : decode cX0_sendHome 110 = .ok (.invokevirtual 54, 3) := by decide +kernel
theorem dX0_sendHome_113 : decode cX0_sendHome 113 = .ok (.ifCond .eq 13, 3) := by decide +kernel
theorem dX0_sendHome_116 : decode cX0_sendHome 116 = .ok (.aload_n 0, 1) := by decide +kernel
theorem dX0_sendHome_117 : decode cX0_sendHome 117 = .ok (.dup, 1) := by decide +kernel
theorem dX0_sendHome_118 : decode cX0_sendHome 118 = .ok (.getfield 36, 3) := by decide +kernel
theorem dX0_sendHome_121 : decode cX0_sendHome 121 = .ok (.iconst 1, 1) := by decide +kernel
theorem dX0_sendHome_122 : decode cX0_sendHome 122 = .ok (.isub, 1) := by decide +kernel
theorem dX0_sendHome_123 : decode cX0_sendHome 123 = .ok (.putfield 36, 3) := by decide +kernel
theorem dX0_sendHome_126 : decode cX0_sendHome 126 = .ok (.return_, 1) := by decide +kernel
theorem dX0_drawHours_0 : decode cX0_drawHours 0 = .ok (.iload_n 1, 1) := by decide +kernel
theorem dX0_drawHours_1 : decode cX0_drawHours 1 = .ok (.istore_n 2, 1) := by decide +kernel
theorem dX0_drawHours_2 : decode cX0_drawHours 2 = .ok (.iconst 0, 1) := by decide +kernel
theorem dX0_drawHours_3 : decode cX0_drawHours 3 = .ok (.istore_n 3, 1) := by decide +kernel
theorem dX0_drawHours_4 : decode cX0_drawHours 4 = .ok (.iload_n 3, 1) := by decide +kernel
theorem dX0_drawHours_5 : decode cX0_drawHours 5 = .ok (.aload_n 0, 1) := by decide +kernel
theorem dX0_drawHours_6 : decode cX0_drawHours 6 = .ok (.getfield 36, 3) := by decide +kernel
theorem dX0_drawHours_9 : decode cX0_drawHours 9 = .ok (.if_icmp .ge 36, 3) := by decide +kernel
theorem dX0_drawHours_12 : decode cX0_drawHours 12 = .ok (.iload_n 2, 1) := by decide +kernel
theorem dX0_drawHours_13 : decode cX0_drawHours 13 = .ok (.ldc 61, 2) := by decide +kernel
theorem dX0_drawHours_15 : decode cX0_drawHours 15 = .ok (.imul, 1) := by decide +kernel
theorem dX0_drawHours_16 : decode cX0_drawHours 16 = .ok (.ldc 62, 2) := by decide +kernel
theorem dX0_drawHours_18 : decode cX0_drawHours 18 = .ok (.iadd, 1) := by decide +kernel
theorem dX0_drawHours_19 : decode cX0_drawHours 19 = .ok (.istore_n 2, 1) := by decide +kernel
theorem dX0_drawHours_20 : decode cX0_drawHours 20 = .ok (.aload_n 0, 1) := by decide +kernel
theorem dX0_drawHours_21 : decode cX0_drawHours 21 = .ok (.getfield 27, 3) := by decide +kernel
theorem dX0_drawHours_24 : decode cX0_drawHours 24 = .ok (.iload_n 3, 1) := by decide +kernel
theorem dX0_drawHours_25 : decode cX0_drawHours 25 = .ok (.iload_n 2, 1) := by decide +kernel
theorem dX0_drawHours_26 : decode cX0_drawHours 26 = .ok (.ldc 65, 2) := by decide +kernel
theorem dX0_drawHours_28 : decode cX0_drawHours 28 = .ok (.iand, 1) := by decide +kernel
theorem dX0_drawHours_29 : decode cX0_drawHours 29 = .ok (.sipush 256, 3) := by decide +kernel
theorem dX0_drawHours_32 : decode cX0_drawHours 32 = .ok (.idiv, 1) := by decide +kernel
theorem dX0_drawHours_33 : decode cX0_drawHours 33 = .ok (.bipush 12, 2) := by decide +kernel
theorem dX0_drawHours_35 : decode cX0_drawHours 35 = .ok (.irem, 1) := by decide +kernel
theorem dX0_drawHours_36 : decode cX0_drawHours 36 = .ok (.invokestatic 30, 3) := by decide +kernel
theorem dX0_drawHours_39 : decode cX0_drawHours 39 = .ok (.iinc 3 1, 3) := by decide +kernel
theorem dX0_drawHours_42 : decode cX0_drawHours 42 = .ok (.goto (-38), 3) := by decide +kernel
theorem dX0_drawHours_45 : decode cX0_drawHours 45 = .ok (.iload_n 2, 1) := by decide +kernel
theorem dX0_drawHours_46 : decode cX0_drawHours 46 = .ok (.ireturn, 1) := by decide +kernel
theorem dX0_stepsOf_0 : decode cX0_stepsOf 0 = .ok (.aload_n 0, 1) := by decide +kernel
theorem dX0_stepsOf_1 : decode cX0_stepsOf 1 = .ok (.getfield 21, 3) := by decide +kernel
theorem dX0_stepsOf_4 : decode cX0_stepsOf 4 = .ok (.iload_n 1, 1) := by decide +kernel
theorem dX0_stepsOf_5 : decode cX0_stepsOf 5 = .ok (.invokestatic 47, 3) := by decide +kernel
theorem dX0_stepsOf_8 : decode cX0_stepsOf 8 = .ok (.aload_n 0, 1) := by decide +kernel
theorem dX0_stepsOf_9 : decode cX0_stepsOf 9 = .ok (.getfield 24, 3) := by decide +kernel
theorem dX0_stepsOf_12 : decode cX0_stepsOf 12 = .ok (.iload_n 1, 1) := by decide +kernel
theorem dX0_stepsOf_13 : decode cX0_stepsOf 13 = .ok (.invokestatic 47, 3) := by decide +kernel
theorem dX0_stepsOf_16 : decode cX0_stepsOf 16 = .ok (.isub, 1) := by decide +kernel
theorem dX0_stepsOf_17 : decode cX0_stepsOf 17 = .ok (.invokestatic 66, 3) := by decide +kernel
theorem dX0_stepsOf_20 : decode cX0_stepsOf 20 = .ok (.ireturn, 1) := by decide +kernel
theorem dX0_allSteps_0 : decode cX0_allSteps 0 = .ok (.iconst 0, 1) := by decide +kernel
theorem dX0_allSteps_1 : decode cX0_allSteps 1 = .ok (.istore_n 1, 1) := by decide +kernel
theorem dX0_allSteps_2 : decode cX0_allSteps 2 = .ok (.iconst 0, 1) := by decide +kernel
theorem dX0_allSteps_3 : decode cX0_allSteps 3 = .ok (.istore_n 2, 1) := by decide +kernel
theorem dX0_allSteps_4 : decode cX0_allSteps 4 = .ok (.iload_n 2, 1) := by decide +kernel
theorem dX0_allSteps_5 : decode cX0_allSteps 5 = .ok (.aload_n 0, 1) := by decide +kernel
theorem dX0_allSteps_6 : decode cX0_allSteps 6 = .ok (.getfield 36, 3) := by decide +kernel
theorem dX0_allSteps_9 : decode cX0_allSteps 9 = .ok (.if_icmp .ge 17, 3) := by decide +kernel
theorem dX0_allSteps_12 : decode cX0_allSteps 12 = .ok (.iload_n 1, 1) := by decide +kernel
theorem dX0_allSteps_13 : decode cX0_allSteps 13 = .ok (.aload_n 0, 1) := by decide +kernel
theorem dX0_allSteps_14 : decode cX0_allSteps 14 = .ok (.iload_n 2, 1) := by decide +kernel
theorem dX0_allSteps_15 : decode cX0_allSteps 15 = .ok (.invokevirtual 72, 3) := by decide +kernel
theorem dX0_allSteps_18 : decode cX0_allSteps 18 = .ok (.iadd, 1) := by decide +kernel
theorem dX0_allSteps_19 : decode cX0_allSteps 19 = .ok (.istore_n 1, 1) := by decide +kernel
theorem dX0_allSteps_20 : decode cX0_allSteps 20 = .ok (.iinc 2 1, 3) := by decide +kernel
theorem dX0_allSteps_23 : decode cX0_allSteps 23 = .ok (.goto (-19), 3) := by decide +kernel
theorem dX0_allSteps_26 : decode cX0_allSteps 26 = .ok (.iload_n 1, 1) := by decide +kernel
theorem dX0_allSteps_27 : decode cX0_allSteps 27 = .ok (.ireturn, 1) := by decide +kernel
theorem dX0_anybodyWithin_0 : decode cX0_anybodyWithin 0 = .ok (.iconst 0, 1) := by decide +kernel
theorem dX0_anybodyWithin_1 : decode cX0_anybodyWithin 1 = .ok (.istore_n 3, 1) := by decide +kernel
theorem dX0_anybodyWithin_2 : decode cX0_anybodyWithin 2 = .ok (.iload_n 3, 1) := by decide +kernel
theorem dX0_anybodyWithin_3 : decode cX0_anybodyWithin 3 = .ok (.aload_n 0, 1) := by decide +kernel
theorem dX0_anybodyWithin_4 : decode cX0_anybodyWithin 4 = .ok (.getfield 36, 3) := by decide +kernel
theorem dX0_anybodyWithin_7 : decode cX0_anybodyWithin 7 = .ok (.if_icmp .ge 45, 3) := by decide +kernel
theorem dX0_anybodyWithin_10 : decode cX0_anybodyWithin 10 = .ok (.aload_n 0, 1) := by decide +kernel
theorem dX0_anybodyWithin_11 : decode cX0_anybodyWithin 11 = .ok (.getfield 21, 3) := by decide +kernel
theorem dX0_anybodyWithin_14 : decode cX0_anybodyWithin 14 = .ok (.iload_n 3, 1) := by decide +kernel
theorem dX0_anybodyWithin_15 : decode cX0_anybodyWithin 15 = .ok (.invokestatic 47, 3) := by decide +kernel
theorem dX0_anybodyWithin_18 : decode cX0_anybodyWithin 18 = .ok (.iload_n 2, 1) := by decide +kernel
theorem dX0_anybodyWithin_19 : decode cX0_anybodyWithin 19 = .ok (.isub, 1) := by decide +kernel
theorem dX0_anybodyWithin_20 : decode cX0_anybodyWithin 20 = .ok (.invokestatic 66, 3) := by decide +kernel
theorem dX0_anybodyWithin_23 : decode cX0_anybodyWithin 23 = .ok (.iload_n 1, 1) := by decide +kernel
theorem dX0_anybodyWithin_24 : decode cX0_anybodyWithin 24 = .ok (.if_icmp .le 20, 3) := by decide +kernel
theorem dX0_anybodyWithin_27 : decode cX0_anybodyWithin 27 = .ok (.aload_n 0, 1) := by decide +kernel
theorem dX0_anybodyWithin_28 : decode cX0_anybodyWithin 28 = .ok (.getfield 24, 3) := by decide +kernel
theorem dX0_anybodyWithin_31 : decode cX0_anybodyWithin 31 = .ok (.iload_n 3, 1) := by decide +kernel
theorem dX0_anybodyWithin_32 : decode cX0_anybodyWithin 32 = .ok (.invokestatic 47, 3) := by decide +kernel
theorem dX0_anybodyWithin_35 : decode cX0_anybodyWithin 35 = .ok (.iload_n 2, 1) := by decide +kernel
theorem dX0_anybodyWithin_36 : decode cX0_anybodyWithin 36 = .ok (.isub, 1) := by decide +kernel
theorem dX0_anybodyWithin_37 : decode cX0_anybodyWithin 37 = .ok (.invokestatic 66, 3) := by decide +kernel
theorem dX0_anybodyWithin_40 : decode cX0_anybodyWithin 40 = .ok (.iload_n 1, 1) := by decide +kernel
theorem dX0_anybodyWithin_41 : decode cX0_anybodyWithin 41 = .ok (.if_icmp .gt 5, 3) := by decide +kernel
theorem dX0_anybodyWithin_44 : decode cX0_anybodyWithin 44 = .ok (.iconst 1, 1) := by decide +kernel
theorem dX0_anybodyWithin_45 : decode cX0_anybodyWithin 45 = .ok (.ireturn, 1) := by decide +kernel
theorem dX0_anybodyWithin_46 : decode cX0_anybodyWithin 46 = .ok (.iinc 3 1, 3) := by decide +kernel
theorem dX0_anybodyWithin_49 : decode cX0_anybodyWithin 49 = .ok (.goto (-47), 3) := by decide +kernel
theorem dX0_anybodyWithin_52 : decode cX0_anybodyWithin 52 = .ok (.iconst 0, 1) := by decide +kernel
theorem dX0_anybodyWithin_53 : decode cX0_anybodyWithin 53 = .ok (.ireturn, 1) := by decide +kernel
theorem dX0_fetches_0 : decode cX0_fetches 0 = .ok (.aload_n 0, 1) := by decide +kernel
theorem dX0_fetches_1 : decode cX0_fetches 1 = .ok (.getfield 15, 3) := by decide +kernel
theorem dX0_fetches_4 : decode cX0_fetches 4 = .ok (.iload_n 1, 1) := by decide +kernel
theorem dX0_fetches_5 : decode cX0_fetches 5 = .ok (.invokestatic 47, 3) := by decide +kernel
theorem dX0_fetches_8 : decode cX0_fetches 8 = .ok (.tableswitch 45 1 3 #[28, 30, 33], 28) := by decide +kernel
theorem dX0_fetches_36 : decode cX0_fetches 36 = .ok (.iconst 0, 1) := by decide +kernel
theorem dX0_fetches_37 : decode cX0_fetches 37 = .ok (.ireturn, 1) := by decide +kernel
theorem dX0_fetches_38 : decode cX0_fetches 38 = .ok (.bipush 39, 2) := by decide +kernel
theorem dX0_fetches_40 : decode cX0_fetches 40 = .ok (.ireturn, 1) := by decide +kernel
theorem dX0_fetches_41 : decode cX0_fetches 41 = .ok (.bipush 6, 2) := by decide +kernel
theorem dX0_fetches_43 : decode cX0_fetches 43 = .ok (.aload_n 0, 1) := by decide +kernel
theorem dX0_fetches_44 : decode cX0_fetches 44 = .ok (.getfield 18, 3) := by decide +kernel
theorem dX0_fetches_47 : decode cX0_fetches 47 = .ok (.iload_n 1, 1) := by decide +kernel
theorem dX0_fetches_48 : decode cX0_fetches 48 = .ok (.invokestatic 47, 3) := by decide +kernel
theorem dX0_fetches_51 : decode cX0_fetches 51 = .ok (.iadd, 1) := by decide +kernel
theorem dX0_fetches_52 : decode cX0_fetches 52 = .ok (.ireturn, 1) := by decide +kernel
theorem dX0_fetches_53 : decode cX0_fetches 53 = .ok (.bipush 6, 2) := by decide +kernel
theorem dX0_fetches_55 : decode cX0_fetches 55 = .ok (.ireturn, 1) := by decide +kernel
theorem dX0_darkStepCosts_0 : decode cX0_darkStepCosts 0 = .ok (.aload_n 0, 1) := by decide +kernel
theorem dX0_darkStepCosts_1 : decode cX0_darkStepCosts 1 = .ok (.getfield 15, 3) := by decide +kernel
theorem dX0_darkStepCosts_4 : decode cX0_darkStepCosts 4 = .ok (.iload_n 1, 1) := by decide +kernel
theorem dX0_darkStepCosts_5 : decode cX0_darkStepCosts 5 = .ok (.invokestatic 47, 3) := by decide +kernel
theorem dX0_darkStepCosts_8 : decode cX0_darkStepCosts 8 = .ok (.tableswitch 59 1 5 #[36, 43, 50, 57, 57], 36) := by decide +kernel
theorem dX0_darkStepCosts_44 : decode cX0_darkStepCosts 44 = .ok (.aload_n 0, 1) := by decide +kernel
theorem dX0_darkStepCosts_45 : decode cX0_darkStepCosts 45 = .ok (.invokevirtual 75, 3) := by decide +kernel
theorem dX0_darkStepCosts_48 : decode cX0_darkStepCosts 48 = .ok (.iconst 2, 1) := by decide +kernel
theorem dX0_darkStepCosts_49 : decode cX0_darkStepCosts 49 = .ok (.idiv, 1) := by decide +kernel
theorem dX0_darkStepCosts_50 : decode cX0_darkStepCosts 50 = .ok (.ireturn, 1) := by decide +kernel
theorem dX0_darkStepCosts_51 : decode cX0_darkStepCosts 51 = .ok (.iconst 2, 1) := by decide +kernel
theorem dX0_darkStepCosts_52 : decode cX0_darkStepCosts 52 = .ok (.aload_n 0, 1) := by decide +kernel
theorem dX0_darkStepCosts_53 : decode cX0_darkStepCosts 53 = .ok (.invokevirtual 75, 3) := by decide +kernel
theorem dX0_darkStepCosts_56 : decode cX0_darkStepCosts 56 = .ok (.imul, 1) := by decide +kernel
theorem dX0_darkStepCosts_57 : decode cX0_darkStepCosts 57 = .ok (.ireturn, 1) := by decide +kernel
theorem dX0_darkStepCosts_58 : decode cX0_darkStepCosts 58 = .ok (.aload_n 0, 1) := by decide +kernel
theorem dX0_darkStepCosts_59 : decode cX0_darkStepCosts 59 = .ok (.invokevirtual 75, 3) := by decide +kernel
theorem dX0_darkStepCosts_62 : decode cX0_darkStepCosts 62 = .ok (.iconst 1, 1) := by decide +kernel
theorem dX0_darkStepCosts_63 : decode cX0_darkStepCosts 63 = .ok (.iadd, 1) := by decide +kernel
theorem dX0_darkStepCosts_64 : decode cX0_darkStepCosts 64 = .ok (.ireturn, 1) := by decide +kernel
theorem dX0_darkStepCosts_65 : decode cX0_darkStepCosts 65 = .ok (.iconst 0, 1) := by decide +kernel
theorem dX0_darkStepCosts_66 : decode cX0_darkStepCosts 66 = .ok (.ireturn, 1) := by decide +kernel
theorem dX0_darkStepCosts_67 : decode cX0_darkStepCosts 67 = .ok (.aload_n 0, 1) := by decide +kernel
theorem dX0_darkStepCosts_68 : decode cX0_darkStepCosts 68 = .ok (.invokevirtual 75, 3) := by decide +kernel
theorem dX0_darkStepCosts_71 : decode cX0_darkStepCosts 71 = .ok (.ireturn, 1) := by decide +kernel
theorem dX0_carriesTo_0 : decode cX0_carriesTo 0 = .ok (.aload_n 0, 1) := by decide +kernel
theorem dX0_carriesTo_1 : decode cX0_carriesTo 1 = .ok (.getfield 24, 3) := by decide +kernel
theorem dX0_carriesTo_4 : decode cX0_carriesTo 4 = .ok (.iload_n 1, 1) := by decide +kernel
theorem dX0_carriesTo_5 : decode cX0_carriesTo 5 = .ok (.invokestatic 47, 3) := by decide +kernel
theorem dX0_carriesTo_8 : decode cX0_carriesTo 8 = .ok (.istore_n 3, 1) := by decide +kernel
theorem dX0_carriesTo_9 : decode cX0_carriesTo 9 = .ok (.aload_n 0, 1) := by decide +kernel
theorem dX0_carriesTo_10 : decode cX0_carriesTo 10 = .ok (.getfield 18, 3) := by decide +kernel
theorem dX0_carriesTo_13 : decode cX0_carriesTo 13 = .ok (.iload_n 1, 1) := by decide +kernel
theorem dX0_carriesTo_14 : decode cX0_carriesTo 14 = .ok (.invokestatic 47, 3) := by decide +kernel
theorem dX0_carriesTo_17 : decode cX0_carriesTo 17 = .ok (.istore 4, 2) := by decide +kernel
theorem dX0_carriesTo_19 : decode cX0_carriesTo 19 = .ok (.aload_n 0, 1) := by decide +kernel
theorem dX0_carriesTo_20 : decode cX0_carriesTo 20 = .ok (.getfield 15, 3) := by decide +kernel
theorem dX0_carriesTo_23 : decode cX0_carriesTo 23 = .ok (.iload_n 1, 1) := by decide +kernel
theorem dX0_carriesTo_24 : decode cX0_carriesTo 24 = .ok (.invokestatic 47, 3) := by decide +kernel
theorem dX0_carriesTo_27 : decode cX0_carriesTo 27 = .ok (.lookupswitch 52 #[(1, 25), (5, 50)], 25) := by decide +kernel
theorem dX0_carriesTo_52 : decode cX0_carriesTo 52 = .ok (.iload_n 2, 1) := by decide +kernel
theorem dX0_carriesTo_53 : decode cX0_carriesTo 53 = .ok (.iload_n 3, 1) := by decide +kernel
theorem dX0_carriesTo_54 : decode cX0_carriesTo 54 = .ok (.if_icmp .gt 14, 3) := by decide +kernel
theorem dX0_carriesTo_57 : decode cX0_carriesTo 57 = .ok (.iload_n 2, 1) := by decide +kernel
theorem dX0_carriesTo_58 : decode cX0_carriesTo 58 = .ok (.iload_n 3, 1) := by decide +kernel
theorem dX0_carriesTo_59 : decode cX0_carriesTo 59 = .ok (.iload 4, 2) := by decide +kernel
theorem dX0_carriesTo_61 : decode cX0_carriesTo 61 = .ok (.isub, 1) := by decide +kernel
theorem dX0_carriesTo_62 : decode cX0_carriesTo 62 = .ok (.invokestatic 79, 3) := by decide +kernel
theorem dX0_carriesTo_65 : decode cX0_carriesTo 65 = .ok (.goto 11, 3) := by decide +kernel
theorem dX0_carriesTo_68 : decode cX0_carriesTo 68 = .ok (.iload_n 2, 1) := by decide +kernel
theorem dX0_carriesTo_69 : decode cX0_carriesTo 69 = .ok (.iload_n 3, 1) := by decide +kernel
theorem dX0_carriesTo_70 : decode cX0_carriesTo 70 = .ok (.iload 4, 2) := by decide +kernel
theorem dX0_carriesTo_72 : decode cX0_carriesTo 72 = .ok (.iadd, 1) := by decide +kernel
theorem dX0_carriesTo_73 : decode cX0_carriesTo 73 = .ok (.invokestatic 83, 3) := by decide +kernel
theorem dX0_carriesTo_76 : decode cX0_carriesTo 76 = .ok (.ireturn, 1) := by decide +kernel
theorem dX0_carriesTo_77 : decode cX0_carriesTo 77 = .ok (.iload_n 2, 1) := by decide +kernel
theorem dX0_carriesTo_78 : decode cX0_carriesTo 78 = .ok (.ireturn, 1) := by decide +kernel
theorem dX0_carriesTo_79 : decode cX0_carriesTo 79 = .ok (.iload_n 3, 1) := by decide +kernel
theorem dX0_carriesTo_80 : decode cX0_carriesTo 80 = .ok (.ireturn, 1) := by decide +kernel
theorem dX0_bringsTo_0 : decode cX0_bringsTo 0 = .ok (.aload_n 0, 1) := by decide +kernel
theorem dX0_bringsTo_1 : decode cX0_bringsTo 1 = .ok (.getfield 15, 3) := by decide +kernel
theorem dX0_bringsTo_4 : decode cX0_bringsTo 4 = .ok (.iload_n 1, 1) := by decide +kernel
theorem dX0_bringsTo_5 : decode cX0_bringsTo 5 = .ok (.invokestatic 47, 3) := by decide +kernel
theorem dX0_bringsTo_8 : decode cX0_bringsTo 8 = .ok (.lookupswitch 42 #[(3, 28), (4, 33)], 28) := by decide +kernel
theorem dX0_bringsTo_36 : decode cX0_bringsTo 36 = .ok (.aload_n 0, 1) := by decide +kernel
theorem dX0_bringsTo_37 : decode cX0_bringsTo 37 = .ok (.invokevirtual 86, 3) := by decide +kernel
theorem dX0_bringsTo_40 : decode cX0_bringsTo 40 = .ok (.ireturn, 1) := by decide +kernel
theorem dX0_bringsTo_41 : decode cX0_bringsTo 41 = .ok (.aload_n 0, 1) := by decide +kernel
theorem dX0_bringsTo_42 : decode cX0_bringsTo 42 = .ok (.getfield 21, 3) := by decide +kernel
theorem dX0_bringsTo_45 : decode cX0_bringsTo 45 = .ok (.iload_n 1, 1) := by decide +kernel
theorem dX0_bringsTo_46 : decode cX0_bringsTo 46 = .ok (.invokestatic 47, 3) := by decide +kernel
theorem dX0_bringsTo_49 : decode cX0_bringsTo 49 = .ok (.ireturn, 1) := by decide +kernel
theorem dX0_bringsTo_50 : decode cX0_bringsTo 50 = .ok (.iload_n 2, 1) := by decide +kernel
theorem dX0_bringsTo_51 : decode cX0_bringsTo 51 = .ok (.ireturn, 1) := by decide +kernel
theorem dX1_init_0 : decode cX1_init 0 = .ok (.aload_n 0, 1) := by decide +kernel
theorem dX1_init_1 : decode cX1_init 1 = .ok (.invokespecial 3, 3) := by decide +kernel
theorem dX1_init_4 : decode cX1_init 4 = .ok (.aload_n 0, 1) := by decide +kernel
theorem dX1_init_5 : decode cX1_init 5 = .ok (.bipush 7, 2) := by decide +kernel
theorem dX1_init_7 : decode cX1_init 7 = .ok (.newarray .int, 2) := by decide +kernel
theorem dX1_init_9 : decode cX1_init 9 = .ok (.putfield 9, 3) := by decide +kernel
theorem dX1_init_12 : decode cX1_init 12 = .ok (.aload_n 0, 1) := by decide +kernel
theorem dX1_init_13 : decode cX1_init 13 = .ok (.sipush 128, 3) := by decide +kernel
theorem dX1_init_16 : decode cX1_init 16 = .ok (.newarray .int, 2) := by decide +kernel
theorem dX1_init_18 : decode cX1_init 18 = .ok (.putfield 15, 3) := by decide +kernel
theorem dX1_init_21 : decode cX1_init 21 = .ok (.aload_n 0, 1) := by decide +kernel
theorem dX1_init_22 : decode cX1_init 22 = .ok (.sipush 128, 3) := by decide +kernel
theorem dX1_init_25 : decode cX1_init 25 = .ok (.newarray .int, 2) := by decide +kernel
theorem dX1_init_27 : decode cX1_init 27 = .ok (.putfield 18, 3) := by decide +kernel
theorem dX1_init_30 : decode cX1_init 30 = .ok (.return_, 1) := by decide +kernel
theorem dX1_reckon_0 : decode cX1_reckon 0 = .ok (.iconst 0, 1) := by decide +kernel
theorem dX1_reckon_1 : decode cX1_reckon 1 = .ok (.istore_n 3, 1) := by decide +kernel
theorem dX1_reckon_2 : decode cX1_reckon 2 = .ok (.iload_n 3, 1) := by decide +kernel
theorem dX1_reckon_3 : decode cX1_reckon 3 = .ok (.bipush 7, 2) := by decide +kernel
theorem dX1_reckon_5 : decode cX1_reckon 5 = .ok (.if_icmp .ge 18, 3) := by decide +kernel
theorem dX1_reckon_8 : decode cX1_reckon 8 = .ok (.aload_n 0, 1) := by decide +kernel
theorem dX1_reckon_9 : decode cX1_reckon 9 = .ok (.getfield 9, 3) := by decide +kernel
theorem dX1_reckon_12 : decode cX1_reckon 12 = .ok (.iload_n 3, 1) := by decide +kernel
theorem dX1_reckon_13 : decode cX1_reckon 13 = .ok (.iconst 0, 1) := by decide +kernel
theorem dX1_reckon_14 : decode cX1_reckon 14 = .ok (.invokestatic 21, 3) := by decide +kernel
theorem dX1_reckon_17 : decode cX1_reckon 17 = .ok (.iinc 3 1, 3) := by decide +kernel
theorem dX1_reckon_20 : decode cX1_reckon 20 = .ok (.goto (-18), 3) := by decide +kernel
theorem dX1_reckon_23 : decode cX1_reckon 23 = .ok (.iconst 0, 1) := by decide +kernel
theorem dX1_reckon_24 : decode cX1_reckon 24 = .ok (.istore_n 3, 1) := by decide +kernel
theorem dX1_reckon_25 : decode cX1_reckon 25 = .ok (.iload_n 3, 1) := by decide +kernel
theorem dX1_reckon_26 : decode cX1_reckon 26 = .ok (.aload_n 2, 1) := by decide +kernel
theorem dX1_reckon_27 : decode cX1_reckon 27 = .ok (.getfield 27, 3) := by decide +kernel
theorem dX1_reckon_30 : decode cX1_reckon 30 = .ok (.iconst 1, 1) := by decide +kernel
theorem dX1_reckon_31 : decode cX1_reckon 31 = .ok (.isub, 1) := by decide +kernel
theorem dX1_reckon_32 : decode cX1_reckon 32 = .ok (.if_icmp .ge 102, 3) := by decide +kernel
theorem dX1_reckon_35 : decode cX1_reckon 35 = .ok (.aload_n 2, 1) := by decide +kernel
theorem dX1_reckon_36 : decode cX1_reckon 36 = .ok (.getfield 33, 3) := by decide +kernel
theorem dX1_reckon_39 : decode cX1_reckon 39 = .ok (.iload_n 3, 1) := by decide +kernel
theorem dX1_reckon_40 : decode cX1_reckon 40 = .ok (.invokestatic 36, 3) := by decide +kernel
theorem dX1_reckon_43 : decode cX1_reckon 43 = .ok (.istore 4, 2) := by decide +kernel
theorem dX1_reckon_45 : decode cX1_reckon 45 = .ok (.aload_n 2, 1) := by decide +kernel
theorem dX1_reckon_46 : decode cX1_reckon 46 = .ok (.getfield 40, 3) := by decide +kernel
theorem dX1_reckon_49 : decode cX1_reckon 49 = .ok (.iload 4, 2) := by decide +kernel
theorem dX1_reckon_51 : decode cX1_reckon 51 = .ok (.invokestatic 36, 3) := by decide +kernel
theorem dX1_reckon_54 : decode cX1_reckon 54 = .ok (.iconst 1, 1) := by decide +kernel
theorem dX1_reckon_55 : decode cX1_reckon 55 = .ok (.if_icmp .ne 73, 3) := by decide +kernel
theorem dX1_reckon_58 : decode cX1_reckon 58 = .ok (.aload_n 2, 1) := by decide +kernel
theorem dX1_reckon_59 : decode cX1_reckon 59 = .ok (.getfield 33, 3) := by decide +kernel
theorem dX1_reckon_62 : decode cX1_reckon 62 = .ok (.iload_n 3, 1) := by decide +kernel
theorem dX1_reckon_63 : decode cX1_reckon 63 = .ok (.iconst 1, 1) := by decide +kernel
theorem dX1_reckon_64 : decode cX1_reckon 64 = .ok (.iadd, 1) := by decide +kernel
theorem dX1_reckon_65 : decode cX1_reckon 65 = .ok (.invokestatic 36, 3) := by decide +kernel
theorem dX1_reckon_68 : decode cX1_reckon 68 = .ok (.istore 5, 2) := by decide +kernel
theorem dX1_reckon_70 : decode cX1_reckon 70 = .ok (.aload_n 1, 1) := by decide +kernel
theorem dX1_reckon_71 : decode cX1_reckon 71 = .ok (.aload_n 2, 1) := by decide +kernel
theorem dX1_reckon_72 : decode cX1_reckon 72 = .ok (.getfield 43, 3) := by decide +kernel
theorem dX1_reckon_75 : decode cX1_reckon 75 = .ok (.iload_n 3, 1) := by decide +kernel
theorem dX1_reckon_76 : decode cX1_reckon 76 = .ok (.invokestatic 36, 3) := by decide +kernel
theorem dX1_reckon_79 : decode cX1_reckon 79 = .ok (.iload 5, 2) := by decide +kernel
theorem dX1_reckon_81 : decode cX1_reckon 81 = .ok (.invokestatic 46, 3) := by decide +kernel
theorem dX1_reckon_84 : decode cX1_reckon 84 = .ok (.istore 6, 2) := by decide +kernel
theorem dX1_reckon_86 : decode cX1_reckon 86 = .ok (.aload_n 0, 1) := by decide +kernel
theorem dX1_reckon_87 : decode cX1_reckon 87 = .ok (.getfield 9, 3) := by decide +kernel
theorem dX1_reckon_90 : decode cX1_reckon 90 = .ok (.iload 4, 2) := by decide +kernel
theorem dX1_reckon_92 : decode cX1_reckon 92 = .ok (.aload_n 0, 1) := by decide +kernel
theorem dX1_reckon_93 : decode cX1_reckon 93 = .ok (.getfield 9, 3) := by decide +kernel
theorem dX1_reckon_96 : decode cX1_reckon 96 = .ok (.iload 4, 2) := by decide +kernel
theorem dX1_reckon_98 : decode cX1_reckon 98 = .ok (.invokestatic 36, 3) := by decide +kernel
theorem dX1_reckon_101 : decode cX1_reckon 101 = .ok (.iload 6, 2) := by decide +kernel
theorem dX1_reckon_103 : decode cX1_reckon 103 = .ok (.isub, 1) := by decide +kernel
theorem dX1_reckon_104 : decode cX1_reckon 104 = .ok (.invokestatic 21, 3) := by decide +kernel
theorem dX1_reckon_107 : decode cX1_reckon 107 = .ok (.aload_n 0, 1) := by decide +kernel
theorem dX1_reckon_108 : decode cX1_reckon 108 = .ok (.getfield 9, 3) := by decide +kernel
theorem dX1_reckon_111 : decode cX1_reckon 111 = .ok (.iload 5, 2) := by decide +kernel
theorem dX1_reckon_113 : decode cX1_reckon 113 = .ok (.aload_n 0, 1) := by decide +kernel
theorem dX1_reckon_114 : decode cX1_reckon 114 = .ok (.getfield 9, 3) := by decide +kernel
theorem dX1_reckon_117 : decode cX1_reckon 117 = .ok (.iload 5, 2) := by decide +kernel
theorem dX1_reckon_119 : decode cX1_reckon 119 = .ok (.invokestatic 36, 3) := by decide +kernel
theorem dX1_reckon_122 : decode cX1_reckon 122 = .ok (.iload 6, 2) := by decide +kernel
theorem dX1_reckon_124 : decode cX1_reckon 124 = .ok (.iadd, 1) := by decide +kernel
theorem dX1_reckon_125 : decode cX1_reckon 125 = .ok (.invokestatic 21, 3) := by decide +kernel
theorem dX1_reckon_128 : decode cX1_reckon 128 = .ok (.iinc 3 1, 3) := by decide +kernel
theorem dX1_reckon_131 : decode cX1_reckon 131 = .ok (.goto (-106), 3) := by decide +kernel
theorem dX1_reckon_134 : decode cX1_reckon 134 = .ok (.return_, 1) := by decide +kernel
theorem dX1_stepsFarther_0 : decode cX1_stepsFarther 0 = .ok (.aload_n 0, 1) := by decide +kernel
theorem dX1_stepsFarther_1 : decode cX1_stepsFarther 1 = .ok (.getfield 50, 3) := by decide +kernel
theorem dX1_stepsFarther_4 : decode cX1_stepsFarther 4 = .ok (.iload_n 2, 1) := by decide +kernel
theorem dX1_stepsFarther_5 : decode cX1_stepsFarther 5 = .ok (.invokestatic 36, 3) := by decide +kernel
theorem dX1_stepsFarther_8 : decode cX1_stepsFarther 8 = .ok (.istore_n 3, 1) := by decide +kernel
theorem dX1_stepsFarther_9 : decode cX1_stepsFarther 9 = .ok (.iconst 0, 1) := by decide +kernel
theorem dX1_stepsFarther_10 : decode cX1_stepsFarther 10 = .ok (.iload_n 1, 1) := by decide +kernel
theorem dX1_stepsFarther_11 : decode cX1_stepsFarther 11 = .ok (.iload_n 3, 1) := by decide +kernel
theorem dX1_stepsFarther_12 : decode cX1_stepsFarther 12 = .ok (.isub, 1) := by decide +kernel
theorem dX1_stepsFarther_13 : decode cX1_stepsFarther 13 = .ok (.invokestatic 55, 3) := by decide +kernel
theorem dX1_stepsFarther_16 : decode cX1_stepsFarther 16 = .ok (.aload_n 0, 1) := by decide +kernel
theorem dX1_stepsFarther_17 : decode cX1_stepsFarther 17 = .ok (.invokevirtual 61, 3) := by decide +kernel
theorem dX1_stepsFarther_20 : decode cX1_stepsFarther 20 = .ok (.iload_n 3, 1) := by decide +kernel
theorem dX1_stepsFarther_21 : decode cX1_stepsFarther 21 = .ok (.isub, 1) := by decide +kernel
theorem dX1_stepsFarther_22 : decode cX1_stepsFarther 22 = .ok (.invokestatic 55, 3) := by decide +kernel
theorem dX1_stepsFarther_25 : decode cX1_stepsFarther 25 = .ok (.isub, 1) := by decide +kernel
theorem dX1_stepsFarther_26 : decode cX1_stepsFarther 26 = .ok (.invokestatic 65, 3) := by decide +kernel
theorem dX1_stepsFarther_29 : decode cX1_stepsFarther 29 = .ok (.ireturn, 1) := by decide +kernel
theorem dX1_fewestPayments_0 : decode cX1_fewestPayments 0 = .ok (.iload_n 1, 1) := by decide +kernel
theorem dX1_fewestPayments_1 : decode cX1_fewestPayments 1 = .ok (.bipush 7, 2) := by decide +kernel
theorem dX1_fewestPayments_3 : decode cX1_fewestPayments 3 = .ok (.if_icmp .le 5, 3) := by decide +kernel
theorem dX1_fewestPayments_6 : decode cX1_fewestPayments 6 = .ok (.iconst 0, 1) := by decide +kernel
theorem dX1_fewestPayments_7 : decode cX1_fewestPayments 7 = .ok (.ireturn, 1) := by decide +kernel
theorem dX1_fewestPayments_8 : decode cX1_fewestPayments 8 = .ok (.aload_n 0, 1) := by decide +kernel
theorem dX1_fewestPayments_9 : decode cX1_fewestPayments 9 = .ok (.getfield 15, 3) := by decide +kernel
theorem dX1_fewestPayments_12 : decode cX1_fewestPayments 12 = .ok (.iconst 0, 1) := by decide +kernel
theorem dX1_fewestPayments_13 : decode cX1_fewestPayments 13 = .ok (.iconst 0, 1) := by decide +kernel
theorem dX1_fewestPayments_14 : decode cX1_fewestPayments 14 = .ok (.invokestatic 21, 3) := by decide +kernel
theorem dX1_fewestPayments_17 : decode cX1_fewestPayments 17 = .ok (.aload_n 0, 1) := by decide +kernel
theorem dX1_fewestPayments_18 : decode cX1_fewestPayments 18 = .ok (.getfield 18, 3) := by decide +kernel
theorem dX1_fewestPayments_21 : decode cX1_fewestPayments 21 = .ok (.iconst 0, 1) := by decide +kernel
theorem dX1_fewestPayments_22 : decode cX1_fewestPayments 22 = .ok (.iconst 0, 1) := by decide +kernel
theorem dX1_fewestPayments_23 : decode cX1_fewestPayments 23 = .ok (.invokestatic 21, 3) := by decide +kernel
theorem dX1_fewestPayments_26 : decode cX1_fewestPayments 26 = .ok (.iconst 1, 1) := by decide +kernel
theorem dX1_fewestPayments_27 : decode cX1_fewestPayments 27 = .ok (.iload_n 1, 1) := by decide +kernel
theorem dX1_fewestPayments_28 : decode cX1_fewestPayments 28 = .ok (.ishl, 1) := by decide +kernel
theorem dX1_fewestPayments_29 : decode cX1_fewestPayments 29 = .ok (.iconst 1, 1) := by decide +kernel
theorem dX1_fewestPayments_30 : decode cX1_fewestPayments 30 = .ok (.isub, 1) := by decide +kernel
theorem dX1_fewestPayments_31 : decode cX1_fewestPayments 31 = .ok (.istore_n 2, 1) := by decide +kernel
theorem dX1_fewestPayments_32 : decode cX1_fewestPayments 32 = .ok (.iconst 1, 1) := by decide +kernel
theorem dX1_fewestPayments_33 : decode cX1_fewestPayments 33 = .ok (.istore_n 3, 1) := by decide +kernel
theorem dX1_fewestPayments_34 : decode cX1_fewestPayments 34 = .ok (.iload_n 3, 1) := by decide +kernel
theorem dX1_fewestPayments_35 : decode cX1_fewestPayments 35 = .ok (.iload_n 2, 1) := by decide +kernel
theorem dX1_fewestPayments_36 : decode cX1_fewestPayments 36 = .ok (.if_icmp .gt 15, 3) := by decide +kernel
theorem dX1_fewestPayments_39 : decode cX1_fewestPayments 39 = .ok (.aload_n 0, 1) := by decide +kernel
theorem dX1_fewestPayments_40 : decode cX1_fewestPayments 40 = .ok (.iload_n 3, 1) := by decide +kernel
theorem dX1_fewestPayments_41 : decode cX1_fewestPayments 41 = .ok (.iload_n 1, 1) := by decide +kernel
theorem dX1_fewestPayments_42 : decode cX1_fewestPayments 42 = .ok (.invokevirtual 69, 3) := by decide +kernel
theorem dX1_fewestPayments_45 : decode cX1_fewestPayments 45 = .ok (.iinc 3 1, 3) := by decide +kernel
theorem dX1_fewestPayments_48 : decode cX1_fewestPayments 48 = .ok (.goto (-14), 3) := by decide +kernel
theorem dX1_fewestPayments_51 : decode cX1_fewestPayments 51 = .ok (.iload_n 1, 1) := by decide +kernel
theorem dX1_fewestPayments_52 : decode cX1_fewestPayments 52 = .ok (.aload_n 0, 1) := by decide +kernel
theorem dX1_fewestPayments_53 : decode cX1_fewestPayments 53 = .ok (.getfield 18, 3) := by decide +kernel
theorem dX1_fewestPayments_56 : decode cX1_fewestPayments 56 = .ok (.iload_n 2, 1) := by decide +kernel
theorem dX1_fewestPayments_57 : decode cX1_fewestPayments 57 = .ok (.invokestatic 36, 3) := by decide +kernel
theorem dX1_fewestPayments_60 : decode cX1_fewestPayments 60 = .ok (.isub, 1) := by decide +kernel
theorem dX1_fewestPayments_61 : decode cX1_fewestPayments 61 = .ok (.ireturn, 1) := by decide +kernel
theorem dX1_joinUp_0 : decode cX1_joinUp 0 = .ok (.iconst 0, 1) := by decide +kernel
theorem dX1_joinUp_1 : decode cX1_joinUp 1 = .ok (.istore_n 3, 1) := by decide +kernel
theorem dX1_joinUp_2 : decode cX1_joinUp 2 = .ok (.iconst 0, 1) := by decide +kernel
theorem dX1_joinUp_3 : decode cX1_joinUp 3 = .ok (.istore 4, 2) := by decide +kernel
theorem dX1_joinUp_5 : decode cX1_joinUp 5 = .ok (.iload 4, 2) := by decide +kernel
theorem dX1_joinUp_7 : decode cX1_joinUp 7 = .ok (.iload_n 2, 1) := by decide +kernel
theorem dX1_joinUp_8 : decode cX1_joinUp 8 = .ok (.if_icmp .ge 66, 3) := by decide +kernel
theorem dX1_joinUp_11 : decode cX1_joinUp 11 = .ok (.iload_n 1, 1) := by decide +kernel
theorem dX1_joinUp_12 : decode cX1_joinUp 12 = .ok (.iconst 1, 1) := by decide +kernel
theorem dX1_joinUp_13 : decode cX1_joinUp 13 = .ok (.iload 4, 2) := by decide +kernel
theorem dX1_joinUp_15 : decode cX1_joinUp 15 = .ok (.ishl, 1) := by decide +kernel
theorem dX1_joinUp_16 : decode cX1_joinUp 16 = .ok (.iconst (-1), 1) := by decide +kernel
theorem dX1_joinUp_17 : decode cX1_joinUp 17 = .ok (.ixor, 1) := by decide +kernel
theorem dX1_joinUp_18 : decode cX1_joinUp 18 = .ok (.iand, 1) := by decide +kernel
theorem dX1_joinUp_19 : decode cX1_joinUp 19 = .ok (.istore 5, 2) := by decide +kernel
theorem dX1_joinUp_21 : decode cX1_joinUp 21 = .ok (.iload 5, 2) := by decide +kernel
theorem dX1_joinUp_23 : decode cX1_joinUp 23 = .ok (.iload_n 1, 1) := by decide +kernel
theorem dX1_joinUp_24 : decode cX1_joinUp 24 = .ok (.if_icmp .eq 44, 3) := by decide +kernel
theorem dX1_joinUp_27 : decode cX1_joinUp 27 = .ok (.iload_n 3, 1) := by decide +kernel
theorem dX1_joinUp_28 : decode cX1_joinUp 28 = .ok (.aload_n 0, 1) := by decide +kernel
theorem dX1_joinUp_29 : decode cX1_joinUp 29 = .ok (.getfield 18, 3) := by decide +kernel
theorem dX1_joinUp_32 : decode cX1_joinUp 32 = .ok (.iload 5, 2) := by decide +kernel
theorem dX1_joinUp_34 : decode cX1_joinUp 34 = .ok (.invokestatic 36, 3) := by decide +kernel
theorem dX1_joinUp_37 : decode cX1_joinUp 37 = .ok (.invokestatic 65, 3) := by decide +kernel
theorem dX1_joinUp_40 : decode cX1_joinUp 40 = .ok (.istore_n 3, 1) := by decide +kernel
theorem dX1_joinUp_41 : decode cX1_joinUp 41 = .ok (.aload_n 0, 1) := by decide +kernel
theorem dX1_joinUp_42 : decode cX1_joinUp 42 = .ok (.getfield 15, 3) := by decide +kernel
theorem dX1_joinUp_45 : decode cX1_joinUp 45 = .ok (.iload_n 1, 1) := by decide +kernel
theorem dX1_joinUp_46 : decode cX1_joinUp 46 = .ok (.aload_n 0, 1) := by decide +kernel
theorem dX1_joinUp_47 : decode cX1_joinUp 47 = .ok (.getfield 15, 3) := by decide +kernel
theorem dX1_joinUp_50 : decode cX1_joinUp 50 = .ok (.iload 5, 2) := by decide +kernel
theorem dX1_joinUp_52 : decode cX1_joinUp 52 = .ok (.invokestatic 36, 3) := by decide +kernel
theorem dX1_joinUp_55 : decode cX1_joinUp 55 = .ok (.aload_n 0, 1) := by decide +kernel
theorem dX1_joinUp_56 : decode cX1_joinUp 56 = .ok (.getfield 9, 3) := by decide +kernel
theorem dX1_joinUp_59 : decode cX1_joinUp 59 = .ok (.iload 4, 2) := by decide +kernel
theorem dX1_joinUp_61 : decode cX1_joinUp 61 = .ok (.invokestatic 36, 3) := by decide +kernel
theorem dX1_joinUp_64 : decode cX1_joinUp 64 = .ok (.iadd, 1) := by decide +kernel
theorem dX1_joinUp_65 : decode cX1_joinUp 65 = .ok (.invokestatic 21, 3) := by decide +kernel
theorem dX1_joinUp_68 : decode cX1_joinUp 68 = .ok (.iinc 4 1, 3) := by decide +kernel
theorem dX1_joinUp_71 : decode cX1_joinUp 71 = .ok (.goto (-66), 3) := by decide +kernel
theorem dX1_joinUp_74 : decode cX1_joinUp 74 = .ok (.aload_n 0, 1) := by decide +kernel
theorem dX1_joinUp_75 : decode cX1_joinUp 75 = .ok (.getfield 18, 3) := by decide +kernel
theorem dX1_joinUp_78 : decode cX1_joinUp 78 = .ok (.iload_n 1, 1) := by decide +kernel
theorem dX1_joinUp_79 : decode cX1_joinUp 79 = .ok (.aload_n 0, 1) := by decide +kernel
theorem dX1_joinUp_80 : decode cX1_joinUp 80 = .ok (.getfield 15, 3) := by decide +kernel
theorem dX1_joinUp_83 : decode cX1_joinUp 83 = .ok (.iload_n 1, 1) := by decide +kernel
theorem dX1_joinUp_84 : decode cX1_joinUp 84 = .ok (.invokestatic 36, 3) := by decide +kernel
theorem dX1_joinUp_87 : decode cX1_joinUp 87 = .ok (.ifCond .ne 9, 3) := by decide +kernel
theorem dX1_joinUp_90 : decode cX1_joinUp 90 = .ok (.iload_n 3, 1) := by decide +kernel
theorem dX1_joinUp_91 : decode cX1_joinUp 91 = .ok (.iconst 1, 1) := by decide +kernel
theorem dX1_joinUp_92 : decode cX1_joinUp 92 = .ok (.iadd, 1) := by decide +kernel
theorem dX1_joinUp_93 : decode cX1_joinUp 93 = .ok (.goto 4, 3) := by decide +kernel
theorem dX1_joinUp_96 : decode cX1_joinUp 96 = .ok (.iload_n 3, 1) := by decide +kernel
theorem dX1_joinUp_97 : decode cX1_joinUp 97 = .ok (.invokestatic 21, 3) := by decide +kernel
theorem dX1_joinUp_100 : decode cX1_joinUp 100 = .ok (.return_, 1) := by decide +kernel
theorem dX2_init_0 : decode cX2_init 0 = .ok (.aload_n 0, 1) := by decide +kernel
theorem dX2_init_1 : decode cX2_init 1 = .ok (.invokespecial 3, 3) := by decide +kernel
theorem dX2_init_4 : decode cX2_init 4 = .ok (.aload_n 0, 1) := by decide +kernel
theorem dX2_init_5 : decode cX2_init 5 = .ok (.bipush 96, 2) := by decide +kernel
theorem dX2_init_7 : decode cX2_init 7 = .ok (.newarray .int, 2) := by decide +kernel
theorem dX2_init_9 : decode cX2_init 9 = .ok (.putfield 9, 3) := by decide +kernel
theorem dX2_init_12 : decode cX2_init 12 = .ok (.return_, 1) := by decide +kernel
theorem dX2_add_0 : decode cX2_add 0 = .ok (.aload_n 0, 1) := by decide +kernel
theorem dX2_add_1 : decode cX2_add 1 = .ok (.getfield 9, 3) := by decide +kernel
theorem dX2_add_4 : decode cX2_add 4 = .ok (.aload_n 0, 1) := by decide +kernel
theorem dX2_add_5 : decode cX2_add 5 = .ok (.getfield 15, 3) := by decide +kernel
theorem dX2_add_8 : decode cX2_add 8 = .ok (.iload_n 1, 1) := by decide +kernel
theorem dX2_add_9 : decode cX2_add 9 = .ok (.invokestatic 19, 3) := by decide +kernel
theorem dX2_add_12 : decode cX2_add 12 = .ok (.aload_n 0, 1) := by decide +kernel
theorem dX2_add_13 : decode cX2_add 13 = .ok (.dup, 1) := by decide +kernel
theorem dX2_add_14 : decode cX2_add 14 = .ok (.getfield 15, 3) := by decide +kernel
theorem dX2_add_17 : decode cX2_add 17 = .ok (.iconst 1, 1) := by decide +kernel
theorem dX2_add_18 : decode cX2_add 18 = .ok (.iadd, 1) := by decide +kernel
theorem dX2_add_19 : decode cX2_add 19 = .ok (.putfield 15, 3) := by decide +kernel
theorem dX2_add_22 : decode cX2_add 22 = .ok (.return_, 1) := by decide +kernel
theorem dX2_tellTo_0 : decode cX2_tellTo 0 = .ok (.aload_n 0, 1) := by decide +kernel
theorem dX2_tellTo_1 : decode cX2_tellTo 1 = .ok (.invokevirtual 25, 3) := by decide +kernel
theorem dX2_tellTo_4 : decode cX2_tellTo 4 = .ok (.istore_n 2, 1) := by decide +kernel
theorem dX2_tellTo_5 : decode cX2_tellTo 5 = .ok (.iload_n 2, 1) := by decide +kernel
theorem dX2_tellTo_6 : decode cX2_tellTo 6 = .ok (.iconst (-1), 1) := by decide +kernel
theorem dX2_tellTo_7 : decode cX2_tellTo 7 = .ok (.if_icmp .eq 9, 3) := by decide +kernel
theorem dX2_tellTo_10 : decode cX2_tellTo 10 = .ok (.sipush (-1000), 3) := by decide +kernel
theorem dX2_tellTo_13 : decode cX2_tellTo 13 = .ok (.iload_n 2, 1) := by decide +kernel
theorem dX2_tellTo_14 : decode cX2_tellTo 14 = .ok (.isub, 1) := by decide +kernel
theorem dX2_tellTo_15 : decode cX2_tellTo 15 = .ok (.ireturn, 1) := by decide +kernel
theorem dX2_tellTo_16 : decode cX2_tellTo 16 = .ok (.iconst 0, 1) := by decide +kernel
theorem dX2_tellTo_17 : decode cX2_tellTo 17 = .ok (.istore_n 3, 1) := by decide +kernel
theorem dX2_tellTo_18 : decode cX2_tellTo 18 = .ok (.iconst 0, 1) := by decide +kernel
theorem dX2_tellTo_19 : decode cX2_tellTo 19 = .ok (.istore 4, 2) := by decide +kernel
theorem dX2_tellTo_21 : decode cX2_tellTo 21 = .ok (.iload 4, 2) := by decide +kernel
theorem dX2_tellTo_23 : decode cX2_tellTo 23 = .ok (.bipush 96, 2) := by decide +kernel
theorem dX2_tellTo_25 : decode cX2_tellTo 25 = .ok (.if_icmp .ge 46, 3) := by decide +kernel
theorem dX2_tellTo_28 : decode cX2_tellTo 28 = .ok (.iload_n 3, 1) := by decide +kernel
theorem dX2_tellTo_29 : decode cX2_tellTo 29 = .ok (.aload_n 0, 1) := by decide +kernel
theorem dX2_tellTo_30 : decode cX2_tellTo 30 = .ok (.getfield 15, 3) := by decide +kernel
theorem dX2_tellTo_33 : decode cX2_tellTo 33 = .ok (.if_icmp .ge 38, 3) := by decide +kernel
theorem dX2_tellTo_36 : decode cX2_tellTo 36 = .ok (.aload_n 0, 1) := by decide +kernel
theorem dX2_tellTo_37 : decode cX2_tellTo 37 = .ok (.aload_n 1, 1) := by decide +kernel
theorem dX2_tellTo_38 : decode cX2_tellTo 38 = .ok (.iload_n 3, 1) := by decide +kernel
theorem dX2_tellTo_39 : decode cX2_tellTo 39 = .ok (.invokevirtual 29, 3) := by decide +kernel
theorem dX2_tellTo_42 : decode cX2_tellTo 42 = .ok (.ifCond .ne 9, 3) := by decide +kernel
theorem dX2_tellTo_45 : decode cX2_tellTo 45 = .ok (.sipush (-2000), 3) := by decide +kernel
theorem dX2_tellTo_48 : decode cX2_tellTo 48 = .ok (.iload_n 3, 1) := by decide +kernel
theorem dX2_tellTo_49 : decode cX2_tellTo 49 = .ok (.isub, 1) := by decide +kernel
theorem dX2_tellTo_50 : decode cX2_tellTo 50 = .ok (.ireturn, 1) := by decide +kernel
theorem dX2_tellTo_51 : decode cX2_tellTo 51 = .ok (.iload_n 3, 1) := by decide +kernel
theorem dX2_tellTo_52 : decode cX2_tellTo 52 = .ok (.aload_n 0, 1) := by decide +kernel
theorem dX2_tellTo_53 : decode cX2_tellTo 53 = .ok (.getfield 9, 3) := by decide +kernel
theorem dX2_tellTo_56 : decode cX2_tellTo 56 = .ok (.iload_n 3, 1) := by decide +kernel
theorem dX2_tellTo_57 : decode cX2_tellTo 57 = .ok (.invokestatic 33, 3) := by decide +kernel
theorem dX2_tellTo_60 : decode cX2_tellTo 60 = .ok (.invokestatic 37, 3) := by decide +kernel
theorem dX2_tellTo_63 : decode cX2_tellTo 63 = .ok (.iadd, 1) := by decide +kernel
theorem dX2_tellTo_64 : decode cX2_tellTo 64 = .ok (.istore_n 3, 1) := by decide +kernel
theorem dX2_tellTo_65 : decode cX2_tellTo 65 = .ok (.iinc 4 1, 3) := by decide +kernel
theorem dX2_tellTo_68 : decode cX2_tellTo 68 = .ok (.goto (-47), 3) := by decide +kernel
theorem dX2_tellTo_71 : decode cX2_tellTo 71 = .ok (.iload 4, 2) := by decide +kernel
theorem dX2_tellTo_73 : decode cX2_tellTo 73 = .ok (.ireturn, 1) := by decide +kernel
theorem dX2_firstOutOfPlace_0 : decode cX2_firstOutOfPlace 0 = .ok (.iconst 0, 1) := by decide +kernel
theorem dX2_firstOutOfPlace_1 : decode cX2_firstOutOfPlace 1 = .ok (.istore_n 1, 1) := by decide +kernel
theorem dX2_firstOutOfPlace_2 : decode cX2_firstOutOfPlace 2 = .ok (.iconst 0, 1) := by decide +kernel
theorem dX2_firstOutOfPlace_3 : decode cX2_firstOutOfPlace 3 = .ok (.istore_n 2, 1) := by decide +kernel
theorem dX2_firstOutOfPlace_4 : decode cX2_firstOutOfPlace 4 = .ok (.iconst 0, 1) := by decide +kernel
theorem dX2_firstOutOfPlace_5 : decode cX2_firstOutOfPlace 5 = .ok (.istore_n 3, 1) := by decide +kernel
theorem dX2_firstOutOfPlace_6 : decode cX2_firstOutOfPlace 6 = .ok (.iload_n 3, 1) := by decide +kernel
theorem dX2_firstOutOfPlace_7 : decode cX2_firstOutOfPlace 7 = .ok (.aload_n 0, 1) := by decide +kernel
theorem dX2_firstOutOfPlace_8 : decode cX2_firstOutOfPlace 8 = .ok (.getfield 15, 3) := by decide +kernel
theorem dX2_firstOutOfPlace_11 : decode cX2_firstOutOfPlace 11 = .ok (.if_icmp .ge 115, 3) := by decide +kernel
theorem dX2_firstOutOfPlace_14 : decode cX2_firstOutOfPlace 14 = .ok (.aload_n 0, 1) := by decide +kernel
theorem dX2_firstOutOfPlace_15 : decode cX2_firstOutOfPlace 15 = .ok (.getfield 9, 3) := by decide +kernel
theorem dX2_firstOutOfPlace_18 : decode cX2_firstOutOfPlace 18 = .ok (.iload_n 3, 1) := by decide +kernel
theorem dX2_firstOutOfPlace_19 : decode cX2_firstOutOfPlace 19 = .ok (.invokestatic 33, 3) := by decide +kernel
theorem dX2_firstOutOfPlace_22 : decode cX2_firstOutOfPlace 22 = .ok (.istore 4, 2) := by decide +kernel
theorem dX2_firstOutOfPlace_24 : decode cX2_firstOutOfPlace 24 = .ok (.iload_n 1, 1) := by decide +kernel
theorem dX2_firstOutOfPlace_25 : decode cX2_firstOutOfPlace 25 = .ok (.ifCond .ne 38, 3) := by decide +kernel
theorem dX2_firstOutOfPlace_28 : decode cX2_firstOutOfPlace 28 = .ok (.iload 4, 2) := by decide +kernel
theorem dX2_firstOutOfPlace_30 : decode cX2_firstOutOfPlace 30 = .ok (.invokestatic 41, 3) := by decide +kernel
theorem dX2_firstOutOfPlace_33 : decode cX2_firstOutOfPlace 33 = .ok (.iconst (-1), 1) := by decide +kernel
theorem dX2_firstOutOfPlace_34 : decode cX2_firstOutOfPlace 34 = .ok (.if_icmp .ne 5, 3) := by decide +kernel
theorem dX2_firstOutOfPlace_37 : decode cX2_firstOutOfPlace 37 = .ok (.iload_n 3, 1) := by decide +kernel
theorem dX2_firstOutOfPlace_38 : decode cX2_firstOutOfPlace 38 = .ok (.ireturn, 1) := by decide +kernel
theorem dX2_firstOutOfPlace_39 : decode cX2_firstOutOfPlace 39 = .ok (.iload 4, 2) := by decide +kernel
theorem dX2_firstOutOfPlace_41 : decode cX2_firstOutOfPlace 41 = .ok (.invokestatic 41, 3) := by decide +kernel
theorem dX2_firstOutOfPlace_44 : decode cX2_firstOutOfPlace 44 = .ok (.iconst 1, 1) := by decide +kernel
theorem dX2_firstOutOfPlace_45 : decode cX2_firstOutOfPlace 45 = .ok (.iadd, 1) := by decide +kernel
theorem dX2_firstOutOfPlace_46 : decode cX2_firstOutOfPlace 46 = .ok (.istore_n 1, 1) := by decide +kernel
theorem dX2_firstOutOfPlace_47 : decode cX2_firstOutOfPlace 47 = .ok (.iload 4, 2) := by decide +kernel
theorem dX2_firstOutOfPlace_49 : decode cX2_firstOutOfPlace 49 = .ok (.bipush 103, 2) := by decide +kernel
theorem dX2_firstOutOfPlace_51 : decode cX2_firstOutOfPlace 51 = .ok (.if_icmp .ne 7, 3) := by decide +kernel
theorem dX2_firstOutOfPlace_54 : decode cX2_firstOutOfPlace 54 = .ok (.iconst 1, 1) := by decide +kernel
theorem dX2_firstOutOfPlace_55 : decode cX2_firstOutOfPlace 55 = .ok (.goto 4, 3) := by decide +kernel
theorem dX2_firstOutOfPlace_58 : decode cX2_firstOutOfPlace 58 = .ok (.iconst 0, 1) := by decide +kernel
theorem dX2_firstOutOfPlace_59 : decode cX2_firstOutOfPlace 59 = .ok (.istore_n 2, 1) := by decide +kernel
theorem dX2_firstOutOfPlace_60 : decode cX2_firstOutOfPlace 60 = .ok (.goto 60, 3) := by decide +kernel
theorem dX2_firstOutOfPlace_63 : decode cX2_firstOutOfPlace 63 = .ok (.iload_n 2, 1) := by decide +kernel
theorem dX2_firstOutOfPlace_64 : decode cX2_firstOutOfPlace 64 = .ok (.ifCond .eq 19, 3) := by decide +kernel
theorem dX2_firstOutOfPlace_67 : decode cX2_firstOutOfPlace 67 = .ok (.iload 4, 2) := by decide +kernel
theorem dX2_firstOutOfPlace_69 : decode cX2_firstOutOfPlace 69 = .ok (.invokestatic 44, 3) := by decide +kernel
theorem dX2_firstOutOfPlace_72 : decode cX2_firstOutOfPlace 72 = .ok (.iconst (-1), 1) := by decide +kernel
theorem dX2_firstOutOfPlace_73 : decode cX2_firstOutOfPlace 73 = .ok (.if_icmp .ne 5, 3) := by decide +kernel
theorem dX2_firstOutOfPlace_76 : decode cX2_firstOutOfPlace 76 = .ok (.iload_n 3, 1) := by decide +kernel
theorem dX2_firstOutOfPlace_77 : decode cX2_firstOutOfPlace 77 = .ok (.ireturn, 1) := by decide +kernel
theorem dX2_firstOutOfPlace_78 : decode cX2_firstOutOfPlace 78 = .ok (.iconst 0, 1) := by decide +kernel
theorem dX2_firstOutOfPlace_79 : decode cX2_firstOutOfPlace 79 = .ok (.istore_n 2, 1) := by decide +kernel
theorem dX2_firstOutOfPlace_80 : decode cX2_firstOutOfPlace 80 = .ok (.goto 40, 3) := by decide +kernel
theorem dX2_firstOutOfPlace_83 : decode cX2_firstOutOfPlace 83 = .ok (.iload_n 1, 1) := by decide +kernel
theorem dX2_firstOutOfPlace_84 : decode cX2_firstOutOfPlace 84 = .ok (.iconst 1, 1) := by decide +kernel
theorem dX2_firstOutOfPlace_85 : decode cX2_firstOutOfPlace 85 = .ok (.if_icmp .le 11, 3) := by decide +kernel
theorem dX2_firstOutOfPlace_88 : decode cX2_firstOutOfPlace 88 = .ok (.iload 4, 2) := by decide +kernel
theorem dX2_firstOutOfPlace_90 : decode cX2_firstOutOfPlace 90 = .ok (.invokestatic 49, 3) := by decide +kernel
theorem dX2_firstOutOfPlace_93 : decode cX2_firstOutOfPlace 93 = .ok (.goto 15, 3) := by decide +kernel
theorem dX2_firstOutOfPlace_96 : decode cX2_firstOutOfPlace 96 = .ok (.iload 4, 2) := by decide +kernel
theorem dX2_firstOutOfPlace_98 : decode cX2_firstOutOfPlace 98 = .ok (.bipush 59, 2) := by decide +kernel
theorem dX2_firstOutOfPlace_100 : decode cX2_firstOutOfPlace 100 = .ok (.if_icmp .ne 7, 3) := by decide +kernel
theorem dX2_firstOutOfPlace_103 : decode cX2_firstOutOfPlace 103 = .ok (.iconst 1, 1) := by decide +kernel
theorem dX2_firstOutOfPlace_104 : decode cX2_firstOutOfPlace 104 = .ok (.goto 4, 3) := by decide +kernel
theorem dX2_firstOutOfPlace_107 : decode cX2_firstOutOfPlace 107 = .ok (.iconst 0, 1) := by decide +kernel
theorem dX2_firstOutOfPlace_108 : decode cX2_firstOutOfPlace 108 = .ok (.istore 5, 2) := by decide +kernel
theorem dX2_firstOutOfPlace_110 : decode cX2_firstOutOfPlace 110 = .ok (.iload 5, 2) := by decide +kernel
theorem dX2_firstOutOfPlace_112 : decode cX2_firstOutOfPlace 112 = .ok (.ifCond .ne 5, 3) := by decide +kernel
theorem dX2_firstOutOfPlace_115 : decode cX2_firstOutOfPlace 115 = .ok (.iload_n 3, 1) := by decide +kernel
theorem dX2_firstOutOfPlace_116 : decode cX2_firstOutOfPlace 116 = .ok (.ireturn, 1) := by decide +kernel
theorem dX2_firstOutOfPlace_117 : decode cX2_firstOutOfPlace 117 = .ok (.iinc 1 (-1), 3) := by decide +kernel
theorem dX2_firstOutOfPlace_120 : decode cX2_firstOutOfPlace 120 = .ok (.iinc 3 1, 3) := by decide +kernel
theorem dX2_firstOutOfPlace_123 : decode cX2_firstOutOfPlace 123 = .ok (.goto (-117), 3) := by decide +kernel
theorem dX2_firstOutOfPlace_126 : decode cX2_firstOutOfPlace 126 = .ok (.aload_n 0, 1) := by decide +kernel
theorem dX2_firstOutOfPlace_127 : decode cX2_firstOutOfPlace 127 = .ok (.getfield 15, 3) := by decide +kernel
theorem dX2_firstOutOfPlace_130 : decode cX2_firstOutOfPlace 130 = .ok (.ifCond .eq 7, 3) := by decide +kernel
theorem dX2_firstOutOfPlace_133 : decode cX2_firstOutOfPlace 133 = .ok (.iload_n 1, 1) := by decide +kernel
theorem dX2_firstOutOfPlace_134 : decode cX2_firstOutOfPlace 134 = .ok (.ifCond .le 10, 3) := by decide +kernel
theorem dX2_firstOutOfPlace_137 : decode cX2_firstOutOfPlace 137 = .ok (.aload_n 0, 1) := by decide +kernel
theorem dX2_firstOutOfPlace_138 : decode cX2_firstOutOfPlace 138 = .ok (.getfield 15, 3) := by decide +kernel
theorem dX2_firstOutOfPlace_141 : decode cX2_firstOutOfPlace 141 = .ok (.goto 4, 3) := by decide +kernel
theorem dX2_firstOutOfPlace_144 : decode cX2_firstOutOfPlace 144 = .ok (.iconst (-1), 1) := by decide +kernel
theorem dX2_firstOutOfPlace_145 : decode cX2_firstOutOfPlace 145 = .ok (.ireturn, 1) := by decide +kernel
theorem dX2_tellStatement_0 : decode cX2_tellStatement 0 = .ok (.aload_n 0, 1) := by decide +kernel
theorem dX2_tellStatement_1 : decode cX2_tellStatement 1 = .ok (.getfield 9, 3) := by decide +kernel
theorem dX2_tellStatement_4 : decode cX2_tellStatement 4 = .ok (.iload_n 2, 1) := by decide +kernel
theorem dX2_tellStatement_5 : decode cX2_tellStatement 5 = .ok (.invokestatic 33, 3) := by decide +kernel
theorem dX2_tellStatement_8 : decode cX2_tellStatement 8 = .ok (.lookupswitch 195 #[(100, 139), (103, 60), (104, 174), (111, 125), (112, 111), (120, 153)], 60) := by decide +kernel
theorem dX2_tellStatement_68 : decode cX2_tellStatement 68 = .ok (.aload_n 1, 1) := by decide +kernel
theorem dX2_tellStatement_69 : decode cX2_tellStatement 69 = .ok (.aload_n 0, 1) := by decide +kernel
theorem dX2_tellStatement_70 : decode cX2_tellStatement 70 = .ok (.getfield 9, 3) := by decide +kernel
theorem dX2_tellStatement_73 : decode cX2_tellStatement 73 = .ok (.iload_n 2, 1) := by decide +kernel
theorem dX2_tellStatement_74 : decode cX2_tellStatement 74 = .ok (.iconst 1, 1) := by decide +kernel
theorem dX2_tellStatement_75 : decode cX2_tellStatement 75 = .ok (.iadd, 1) := by decide +kernel
theorem dX2_tellStatement_76 : decode cX2_tellStatement 76 = .ok (.invokestatic 33, 3) := by decide +kernel
theorem dX2_tellStatement_79 : decode cX2_tellStatement 79 = .ok (.invokestatic 44, 3) := by decide +kernel
theorem dX2_tellStatement_82 : decode cX2_tellStatement 82 = .ok (.aload_n 0, 1) := by decide +kernel
theorem dX2_tellStatement_83 : decode cX2_tellStatement 83 = .ok (.iload_n 2, 1) := by decide +kernel
theorem dX2_tellStatement_84 : decode cX2_tellStatement 84 = .ok (.iconst 2, 1) := by decide +kernel
theorem dX2_tellStatement_85 : decode cX2_tellStatement 85 = .ok (.iadd, 1) := by decide +kernel
theorem dX2_tellStatement_86 : decode cX2_tellStatement 86 = .ok (.iconst 1, 1) := by decide +kernel
theorem dX2_tellStatement_87 : decode cX2_tellStatement 87 = .ok (.invokevirtual 53, 3) := by decide +kernel
theorem dX2_tellStatement_90 : decode cX2_tellStatement 90 = .ok (.aload_n 0, 1) := by decide +kernel
theorem dX2_tellStatement_91 : decode cX2_tellStatement 91 = .ok (.iload_n 2, 1) := by decide +kernel
theorem dX2_tellStatement_92 : decode cX2_tellStatement 92 = .ok (.iconst 3, 1) := by decide +kernel
theorem dX2_tellStatement_93 : decode cX2_tellStatement 93 = .ok (.iadd, 1) := by decide +kernel
theorem dX2_tellStatement_94 : decode cX2_tellStatement 94 = .ok (.iconst 2, 1) := by decide +kernel
theorem dX2_tellStatement_95 : decode cX2_tellStatement 95 = .ok (.invokevirtual 53, 3) := by decide +kernel
theorem dX2_tellStatement_98 : decode cX2_tellStatement 98 = .ok (.aload_n 0, 1) := by decide +kernel
theorem dX2_tellStatement_99 : decode cX2_tellStatement 99 = .ok (.iload_n 2, 1) := by decide +kernel
theorem dX2_tellStatement_100 : decode cX2_tellStatement 100 = .ok (.iconst 5, 1) := by decide +kernel
theorem dX2_tellStatement_101 : decode cX2_tellStatement 101 = .ok (.iadd, 1) := by decide +kernel
theorem dX2_tellStatement_102 : decode cX2_tellStatement 102 = .ok (.iconst 2, 1) := by decide +kernel
theorem dX2_tellStatement_103 : decode cX2_tellStatement 103 = .ok (.invokevirtual 53, 3) := by decide +kernel
theorem dX2_tellStatement_106 : decode cX2_tellStatement 106 = .ok (.aload_n 0, 1) := by decide +kernel
theorem dX2_tellStatement_107 : decode cX2_tellStatement 107 = .ok (.iload_n 2, 1) := by decide +kernel
theorem dX2_tellStatement_108 : decode cX2_tellStatement 108 = .ok (.bipush 7, 2) := by decide +kernel
theorem dX2_tellStatement_110 : decode cX2_tellStatement 110 = .ok (.iadd, 1) := by decide +kernel
theorem dX2_tellStatement_111 : decode cX2_tellStatement 111 = .ok (.iconst 2, 1) := by decide +kernel
theorem dX2_tellStatement_112 : decode cX2_tellStatement 112 = .ok (.invokevirtual 53, 3) := by decide +kernel
theorem dX2_tellStatement_115 : decode cX2_tellStatement 115 = .ok (.invokevirtual 57, 3) := by decide +kernel
theorem dX2_tellStatement_118 : decode cX2_tellStatement 118 = .ok (.ireturn, 1) := by decide +kernel
theorem dX2_tellStatement_119 : decode cX2_tellStatement 119 = .ok (.aload_n 1, 1) := by decide +kernel
theorem dX2_tellStatement_120 : decode cX2_tellStatement 120 = .ok (.iconst 0, 1) := by decide +kernel
theorem dX2_tellStatement_121 : decode cX2_tellStatement 121 = .ok (.aload_n 0, 1) := by decide +kernel
theorem dX2_tellStatement_122 : decode cX2_tellStatement 122 = .ok (.iload_n 2, 1) := by decide +kernel
theorem dX2_tellStatement_123 : decode cX2_tellStatement 123 = .ok (.iconst 1, 1) := by decide +kernel
theorem dX2_tellStatement_124 : decode cX2_tellStatement 124 = .ok (.iadd, 1) := by decide +kernel
theorem dX2_tellStatement_125 : decode cX2_tellStatement 125 = .ok (.iconst 2, 1) := by decide +kernel
theorem dX2_tellStatement_126 : decode cX2_tellStatement 126 = .ok (.invokevirtual 53, 3) := by decide +kernel
theorem dX2_tellStatement_129 : decode cX2_tellStatement 129 = .ok (.invokevirtual 61, 3) := by decide +kernel
theorem dX2_tellStatement_132 : decode cX2_tellStatement 132 = .ok (.ireturn, 1) := by decide +kernel
theorem dX2_tellStatement_133 : decode cX2_tellStatement 133 = .ok (.aload_n 1, 1) := by decide +kernel
theorem dX2_tellStatement_134 : decode cX2_tellStatement 134 = .ok (.iconst 1, 1) := by decide +kernel
theorem dX2_tellStatement_135 : decode cX2_tellStatement 135 = .ok (.aload_n 0, 1) := by decide +kernel
theorem dX2_tellStatement_136 : decode cX2_tellStatement 136 = .ok (.iload_n 2, 1) := by decide +kernel
theorem dX2_tellStatement_137 : decode cX2_tellStatement 137 = .ok (.iconst 1, 1) := by decide +kernel
theorem dX2_tellStatement_138 : decode cX2_tellStatement 138 = .ok (.iadd, 1) := by decide +kernel
theorem dX2_tellStatement_139 : decode cX2_tellStatement 139 = .ok (.iconst 3, 1) := by decide +kernel
theorem dX2_tellStatement_140 : decode cX2_tellStatement 140 = .ok (.invokevirtual 53, 3) := by decide +kernel
theorem dX2_tellStatement_143 : decode cX2_tellStatement 143 = .ok (.invokevirtual 61, 3) := by decide +kernel
theorem dX2_tellStatement_146 : decode cX2_tellStatement 146 = .ok (.ireturn, 1) := by decide +kernel
theorem dX2_tellStatement_147 : decode cX2_tellStatement 147 = .ok (.aload_n 1, 1) := by decide +kernel
theorem dX2_tellStatement_148 : decode cX2_tellStatement 148 = .ok (.iconst 2, 1) := by decide +kernel
theorem dX2_tellStatement_149 : decode cX2_tellStatement 149 = .ok (.aload_n 0, 1) := by decide +kernel
theorem dX2_tellStatement_150 : decode cX2_tellStatement 150 = .ok (.iload_n 2, 1) := by decide +kernel
theorem dX2_tellStatement_151 : decode cX2_tellStatement 151 = .ok (.iconst 1, 1) := by decide +kernel
theorem dX2_tellStatement_152 : decode cX2_tellStatement 152 = .ok (.iadd, 1) := by decide +kernel
theorem dX2_tellStatement_153 : decode cX2_tellStatement 153 = .ok (.iconst 1, 1) := by decide +kernel
theorem dX2_tellStatement_154 : decode cX2_tellStatement 154 = .ok (.invokevirtual 53, 3) := by decide +kernel
theorem dX2_tellStatement_157 : decode cX2_tellStatement 157 = .ok (.invokevirtual 61, 3) := by decide +kernel
theorem dX2_tellStatement_160 : decode cX2_tellStatement 160 = .ok (.ireturn, 1) := by decide +kernel
theorem dX2_tellStatement_161 : decode cX2_tellStatement 161 = .ok (.aload_n 1, 1) := by decide +kernel
theorem dX2_tellStatement_162 : decode cX2_tellStatement 162 = .ok (.aload_n 0, 1) := by decide +kernel
theorem dX2_tellStatement_163 : decode cX2_tellStatement 163 = .ok (.iload_n 2, 1) := by decide +kernel
theorem dX2_tellStatement_164 : decode cX2_tellStatement 164 = .ok (.iconst 1, 1) := by decide +kernel
theorem dX2_tellStatement_165 : decode cX2_tellStatement 165 = .ok (.iadd, 1) := by decide +kernel
theorem dX2_tellStatement_166 : decode cX2_tellStatement 166 = .ok (.iconst 1, 1) := by decide +kernel
theorem dX2_tellStatement_167 : decode cX2_tellStatement 167 = .ok (.invokevirtual 53, 3) := by decide +kernel
theorem dX2_tellStatement_170 : decode cX2_tellStatement 170 = .ok (.aload_n 0, 1) := by decide +kernel
theorem dX2_tellStatement_171 : decode cX2_tellStatement 171 = .ok (.iload_n 2, 1) := by decide +kernel
theorem dX2_tellStatement_172 : decode cX2_tellStatement 172 = .ok (.iconst 2, 1) := by decide +kernel
theorem dX2_tellStatement_173 : decode cX2_tellStatement 173 = .ok (.iadd, 1) := by decide +kernel
theorem dX2_tellStatement_174 : decode cX2_tellStatement 174 = .ok (.iconst 1, 1) := by decide +kernel
theorem dX2_tellStatement_175 : decode cX2_tellStatement 175 = .ok (.invokevirtual 53, 3) := by decide +kernel
theorem dX2_tellStatement_178 : decode cX2_tellStatement 178 = .ok (.invokevirtual 65, 3) := by decide +kernel
theorem dX2_tellStatement_181 : decode cX2_tellStatement 181 = .ok (.ireturn, 1) := by decide +kernel
theorem dX2_tellStatement_182 : decode cX2_tellStatement 182 = .ok (.aload_n 1, 1) := by decide +kernel
theorem dX2_tellStatement_183 : decode cX2_tellStatement 183 = .ok (.aload_n 0, 1) := by decide +kernel
theorem dX2_tellStatement_184 : decode cX2_tellStatement 184 = .ok (.iload_n 2, 1) := by decide +kernel
theorem dX2_tellStatement_185 : decode cX2_tellStatement 185 = .ok (.iconst 1, 1) := by decide +kernel
theorem dX2_tellStatement_186 : decode cX2_tellStatement 186 = .ok (.iadd, 1) := by decide +kernel
theorem dX2_tellStatement_187 : decode cX2_tellStatement 187 = .ok (.iconst 1, 1) := by decide +kernel
theorem dX2_tellStatement_188 : decode cX2_tellStatement 188 = .ok (.invokevirtual 53, 3) := by decide +kernel
theorem dX2_tellStatement_191 : decode cX2_tellStatement 191 = .ok (.aload_n 0, 1) := by decide +kernel
theorem dX2_tellStatement_192 : decode cX2_tellStatement 192 = .ok (.iload_n 2, 1) := by decide +kernel
theorem dX2_tellStatement_193 : decode cX2_tellStatement 193 = .ok (.iconst 2, 1) := by decide +kernel
theorem dX2_tellStatement_194 : decode cX2_tellStatement 194 = .ok (.iadd, 1) := by decide +kernel
theorem dX2_tellStatement_195 : decode cX2_tellStatement 195 = .ok (.iconst 2, 1) := by decide +kernel
theorem dX2_tellStatement_196 : decode cX2_tellStatement 196 = .ok (.invokevirtual 53, 3) := by decide +kernel
theorem dX2_tellStatement_199 : decode cX2_tellStatement 199 = .ok (.invokevirtual 68, 3) := by decide +kernel
theorem dX2_tellStatement_202 : decode cX2_tellStatement 202 = .ok (.ireturn, 1) := by decide +kernel
theorem dX2_tellStatement_203 : decode cX2_tellStatement 203 = .ok (.iconst 0, 1) := by decide +kernel
theorem dX2_tellStatement_204 : decode cX2_tellStatement 204 = .ok (.ireturn, 1) := by decide +kernel
theorem dX2_number_0 : decode cX2_number 0 = .ok (.iconst 0, 1) := by decide +kernel
theorem dX2_number_1 : decode cX2_number 1 = .ok (.istore_n 3, 1) := by decide +kernel
theorem dX2_number_2 : decode cX2_number 2 = .ok (.iload_n 1, 1) := by decide +kernel
theorem dX2_number_3 : decode cX2_number 3 = .ok (.istore 4, 2) := by decide +kernel
theorem dX2_number_5 : decode cX2_number 5 = .ok (.iload 4, 2) := by decide +kernel
theorem dX2_number_7 : decode cX2_number 7 = .ok (.iload_n 1, 1) := by decide +kernel
theorem dX2_number_8 : decode cX2_number 8 = .ok (.iload_n 2, 1) := by decide +kernel
theorem dX2_number_9 : decode cX2_number 9 = .ok (.iadd, 1) := by decide +kernel
theorem dX2_number_10 : decode cX2_number 10 = .ok (.if_icmp .ge 27, 3) := by decide +kernel
theorem dX2_number_13 : decode cX2_number 13 = .ok (.iload_n 3, 1) := by decide +kernel
theorem dX2_number_14 : decode cX2_number 14 = .ok (.bipush 10, 2) := by decide +kernel
theorem dX2_number_16 : decode cX2_number 16 = .ok (.imul, 1) := by decide +kernel
theorem dX2_number_17 : decode cX2_number 17 = .ok (.aload_n 0, 1) := by decide +kernel
theorem dX2_number_18 : decode cX2_number 18 = .ok (.getfield 9, 3) := by decide +kernel
theorem dX2_number_21 : decode cX2_number 21 = .ok (.iload 4, 2) := by decide +kernel
theorem dX2_number_23 : decode cX2_number 23 = .ok (.invokestatic 33, 3) := by decide +kernel
theorem dX2_number_26 : decode cX2_number 26 = .ok (.iadd, 1) := by decide +kernel
theorem dX2_number_27 : decode cX2_number 27 = .ok (.bipush 48, 2) := by decide +kernel
theorem dX2_number_29 : decode cX2_number 29 = .ok (.isub, 1) := by decide +kernel
theorem dX2_number_30 : decode cX2_number 30 = .ok (.istore_n 3, 1) := by decide +kernel
theorem dX2_number_31 : decode cX2_number 31 = .ok (.iinc 4 1, 3) := by decide +kernel
theorem dX2_number_34 : decode cX2_number 34 = .ok (.goto (-29), 3) := by decide +kernel
theorem dX2_number_37 : decode cX2_number 37 = .ok (.iload_n 3, 1) := by decide +kernel
theorem dX2_number_38 : decode cX2_number 38 = .ok (.ireturn, 1) := by decide +kernel
theorem dX2_digitsOf_0 : decode cX2_digitsOf 0 = .ok (.iload_n 0, 1) := by decide +kernel
theorem dX2_digitsOf_1 : decode cX2_digitsOf 1 = .ok (.lookupswitch 72 #[(100, 66), (103, 59), (104, 70), (111, 64), (112, 62), (120, 68)], 59) := by decide +kernel
theorem dX2_digitsOf_60 : decode cX2_digitsOf 60 = .ok (.bipush 7, 2) := by decide +kernel
theorem dX2_digitsOf_62 : decode cX2_digitsOf 62 = .ok (.ireturn, 1) := by decide +kernel
theorem dX2_digitsOf_63 : decode cX2_digitsOf 63 = .ok (.iconst 2, 1) := by decide +kernel
theorem dX2_digitsOf_64 : decode cX2_digitsOf 64 = .ok (.ireturn, 1) := by decide +kernel
theorem dX2_digitsOf_65 : decode cX2_digitsOf 65 = .ok (.iconst 3, 1) := by decide +kernel
theorem dX2_digitsOf_66 : decode cX2_digitsOf 66 = .ok (.ireturn, 1) := by decide +kernel
theorem dX2_digitsOf_67 : decode cX2_digitsOf 67 = .ok (.iconst 1, 1) := by decide +kernel
theorem dX2_digitsOf_68 : decode cX2_digitsOf 68 = .ok (.ireturn, 1) := by decide +kernel
theorem dX2_digitsOf_69 : decode cX2_digitsOf 69 = .ok (.iconst 2, 1) := by decide +kernel
theorem dX2_digitsOf_70 : decode cX2_digitsOf 70 = .ok (.ireturn, 1) := by decide +kernel
theorem dX2_digitsOf_71 : decode cX2_digitsOf 71 = .ok (.iconst 3, 1) := by decide +kernel
theorem dX2_digitsOf_72 : decode cX2_digitsOf 72 = .ok (.ireturn, 1) := by decide +kernel
theorem dX2_digitsOf_73 : decode cX2_digitsOf 73 = .ok (.iconst (-1), 1) := by decide +kernel
theorem dX2_digitsOf_74 : decode cX2_digitsOf 74 = .ok (.ireturn, 1) := by decide +kernel
theorem dX2_lengthOf_0 : decode cX2_lengthOf 0 = .ok (.iload_n 0, 1) := by decide +kernel
theorem dX2_lengthOf_1 : decode cX2_lengthOf 1 = .ok (.bipush 103, 2) := by decide +kernel
theorem dX2_lengthOf_3 : decode cX2_lengthOf 3 = .ok (.if_icmp .ne 7, 3) := by decide +kernel
theorem dX2_lengthOf_6 : decode cX2_lengthOf 6 = .ok (.iconst 3, 1) := by decide +kernel
theorem dX2_lengthOf_7 : decode cX2_lengthOf 7 = .ok (.goto 4, 3) := by decide +kernel
theorem dX2_lengthOf_10 : decode cX2_lengthOf 10 = .ok (.iconst 2, 1) := by decide +kernel
theorem dX2_lengthOf_11 : decode cX2_lengthOf 11 = .ok (.istore_n 1, 1) := by decide +kernel
theorem dX2_lengthOf_12 : decode cX2_lengthOf 12 = .ok (.iload_n 0, 1) := by decide +kernel
theorem dX2_lengthOf_13 : decode cX2_lengthOf 13 = .ok (.invokestatic 41, 3) := by decide +kernel
theorem dX2_lengthOf_16 : decode cX2_lengthOf 16 = .ok (.iload_n 1, 1) := by decide +kernel
theorem dX2_lengthOf_17 : decode cX2_lengthOf 17 = .ok (.iadd, 1) := by decide +kernel
theorem dX2_lengthOf_18 : decode cX2_lengthOf 18 = .ok (.ireturn, 1) := by decide +kernel
theorem dX2_kindOf_0 : decode cX2_kindOf 0 = .ok (.iload_n 0, 1) := by decide +kernel
theorem dX2_kindOf_1 : decode cX2_kindOf 1 = .ok (.tableswitch 99 99 116 #[93, 89, 99, 99, 87, 99, 99, 99, 99, 97, 91, 99, 99, 99, 99, 99, 99, 95], 87) := by decide +kernel
theorem dX2_kindOf_88 : decode cX2_kindOf 88 = .ok (.iconst 0, 1) := by decide +kernel
theorem dX2_kindOf_89 : decode cX2_kindOf 89 = .ok (.ireturn, 1) := by decide +kernel
theorem dX2_kindOf_90 : decode cX2_kindOf 90 = .ok (.iconst 1, 1) := by decide +kernel
theorem dX2_kindOf_91 : decode cX2_kindOf 91 = .ok (.ireturn, 1) := by decide +kernel
theorem dX2_kindOf_92 : decode cX2_kindOf 92 = .ok (.iconst 2, 1) := by decide +kernel
theorem dX2_kindOf_93 : decode cX2_kindOf 93 = .ok (.ireturn, 1) := by decide +kernel
theorem dX2_kindOf_94 : decode cX2_kindOf 94 = .ok (.iconst 3, 1) := by decide +kernel
theorem dX2_kindOf_95 : decode cX2_kindOf 95 = .ok (.ireturn, 1) := by decide +kernel
theorem dX2_kindOf_96 : decode cX2_kindOf 96 = .ok (.iconst 4, 1) := by decide +kernel
theorem dX2_kindOf_97 : decode cX2_kindOf 97 = .ok (.ireturn, 1) := by decide +kernel
theorem dX2_kindOf_98 : decode cX2_kindOf 98 = .ok (.iconst 5, 1) := by decide +kernel
theorem dX2_kindOf_99 : decode cX2_kindOf 99 = .ok (.ireturn, 1) := by decide +kernel
theorem dX2_kindOf_100 : decode cX2_kindOf 100 = .ok (.iconst (-1), 1) := by decide +kernel
theorem dX2_kindOf_101 : decode cX2_kindOf 101 = .ok (.ireturn, 1) := by decide +kernel
theorem dX2_isDigit_0 : decode cX2_isDigit 0 = .ok (.iload_n 0, 1) := by decide +kernel
theorem dX2_isDigit_1 : decode cX2_isDigit 1 = .ok (.bipush 48, 2) := by decide +kernel
theorem dX2_isDigit_3 : decode cX2_isDigit 3 = .ok (.if_icmp .lt 13, 3) := by decide +kernel
theorem dX2_isDigit_6 : decode cX2_isDigit 6 = .ok (.iload_n 0, 1) := by decide +kernel
theorem dX2_isDigit_7 : decode cX2_isDigit 7 = .ok (.bipush 57, 2) := by decide +kernel
theorem dX2_isDigit_9 : decode cX2_isDigit 9 = .ok (.if_icmp .gt 7, 3) := by decide +kernel
theorem dX2_isDigit_12 : decode cX2_isDigit 12 = .ok (.iconst 1, 1) := by decide +kernel
theorem dX2_isDigit_13 : decode cX2_isDigit 13 = .ok (.goto 4, 3) := by decide +kernel
theorem dX2_isDigit_16 : decode cX2_isDigit 16 = .ok (.iconst 0, 1) := by decide +kernel
theorem dX2_isDigit_17 : decode cX2_isDigit 17 = .ok (.ireturn, 1) := by decide +kernel
theorem dX3_init_0 : decode cX3_init 0 = .ok (.aload_n 0, 1) := by decide +kernel
theorem dX3_init_1 : decode cX3_init 1 = .ok (.invokespecial 3, 3) := by decide +kernel
theorem dX3_init_4 : decode cX3_init 4 = .ok (.aload_n 0, 1) := by decide +kernel
theorem dX3_init_5 : decode cX3_init 5 = .ok (.bipush 7, 2) := by decide +kernel
theorem dX3_init_7 : decode cX3_init 7 = .ok (.newarray .int, 2) := by decide +kernel
theorem dX3_init_9 : decode cX3_init 9 = .ok (.putfield 9, 3) := by decide +kernel
theorem dX3_init_12 : decode cX3_init 12 = .ok (.aload_n 0, 1) := by decide +kernel
theorem dX3_init_13 : decode cX3_init 13 = .ok (.bipush 7, 2) := by decide +kernel
theorem dX3_init_15 : decode cX3_init 15 = .ok (.newarray .int, 2) := by decide +kernel
theorem dX3_init_17 : decode cX3_init 17 = .ok (.putfield 15, 3) := by decide +kernel
theorem dX3_init_20 : decode cX3_init 20 = .ok (.return_, 1) := by decide +kernel
theorem dX3_search_0 : decode cX3_search 0 = .ok (.aload_n 0, 1) := by decide +kernel
theorem dX3_search_1 : decode cX3_search 1 = .ok (.iconst 0, 1) := by decide +kernel
theorem dX3_search_2 : decode cX3_search 2 = .ok (.putfield 18, 3) := by decide +kernel
theorem dX3_search_5 : decode cX3_search 5 = .ok (.aload_n 0, 1) := by decide +kernel
theorem dX3_search_6 : decode cX3_search 6 = .ok (.iconst 0, 1) := by decide +kernel
theorem dX3_search_7 : decode cX3_search 7 = .ok (.putfield 22, 3) := by decide +kernel
theorem dX3_search_10 : decode cX3_search 10 = .ok (.iconst 0, 1) := by decide +kernel
theorem dX3_search_11 : decode cX3_search 11 = .ok (.istore 4, 2) := by decide +kernel
theorem dX3_search_13 : decode cX3_search 13 = .ok (.iload 4, 2) := by decide +kernel
theorem dX3_search_15 : decode cX3_search 15 = .ok (.aload_n 1, 1) := by decide +kernel
theorem dX3_search_16 : decode cX3_search 16 = .ok (.getfield 26, 3) := by decide +kernel
theorem dX3_search_19 : decode cX3_search 19 = .ok (.if_icmp .ge 20, 3) := by decide +kernel
theorem dX3_search_22 : decode cX3_search 22 = .ok (.aload_n 0, 1) := by decide +kernel
theorem dX3_search_23 : decode cX3_search 23 = .ok (.getfield 15, 3) := by decide +kernel
theorem dX3_search_26 : decode cX3_search 26 = .ok (.iload 4, 2) := by decide +kernel
theorem dX3_search_28 : decode cX3_search 28 = .ok (.iload 4, 2) := by decide +kernel
theorem dX3_search_30 : decode cX3_search 30 = .ok (.invokestatic 31, 3) := by decide +kernel
theorem dX3_search_33 : decode cX3_search 33 = .ok (.iinc 4 1, 3) := by decide +kernel
theorem dX3_search_36 : decode cX3_search 36 = .ok (.goto (-23), 3) := by decide +kernel
theorem dX3_search_39 : decode cX3_search 39 = .ok (.iconst 1, 1) := by decide +kernel
theorem dX3_search_40 : decode cX3_search 40 = .ok (.istore 4, 2) := by decide +kernel
theorem dX3_search_42 : decode cX3_search 42 = .ok (.iconst 0, 1) := by decide +kernel
theorem dX3_search_43 : decode cX3_search 43 = .ok (.istore 5, 2) := by decide +kernel
theorem dX3_search_45 : decode cX3_search 45 = .ok (.iload 5, 2) := by decide +kernel
theorem dX3_search_47 : decode cX3_search 47 = .ok (.sipush 720, 3) := by decide +kernel
theorem dX3_search_50 : decode cX3_search 50 = .ok (.if_icmp .ge 100, 3) := by decide +kernel
theorem dX3_search_53 : decode cX3_search 53 = .ok (.iload 4, 2) := by decide +kernel
theorem dX3_search_55 : decode cX3_search 55 = .ok (.ifCond .eq 95, 3) := by decide +kernel
theorem dX3_search_58 : decode cX3_search 58 = .ok (.aload_n 2, 1) := by decide +kernel
theorem dX3_search_59 : decode cX3_search 59 = .ok (.aload_n 1, 1) := by decide +kernel
theorem dX3_search_60 : decode cX3_search 60 = .ok (.aload_n 0, 1) := by decide +kernel
theorem dX3_search_61 : decode cX3_search 61 = .ok (.getfield 15, 3) := by decide +kernel
theorem dX3_search_64 : decode cX3_search 64 = .ok (.invokevirtual 37, 3) := by decide +kernel
theorem dX3_search_67 : decode cX3_search 67 = .ok (.istore 6, 2) := by decide +kernel
theorem dX3_search_69 : decode cX3_search 69 = .ok (.iload_n 3, 1) := by decide +kernel
theorem dX3_search_70 : decode cX3_search 70 = .ok (.ifCond .eq 14, 3) := by decide +kernel
theorem dX3_search_73 : decode cX3_search 73 = .ok (.aload_n 2, 1) := by decide +kernel
theorem dX3_search_74 : decode cX3_search 74 = .ok (.invokevirtual 43, 3) := by decide +kernel
theorem dX3_search_77 : decode cX3_search 77 = .ok (.aload_n 1, 1) := by decide +kernel
theorem dX3_search_78 : decode cX3_search 78 = .ok (.invokevirtual 47, 3) := by decide +kernel
theorem dX3_search_81 : decode cX3_search 81 = .ok (.if_icmp .ne 7, 3) := by decide +kernel
theorem dX3_search_84 : decode cX3_search 84 = .ok (.iconst 1, 1) := by decide +kernel
theorem dX3_search_85 : decode cX3_search 85 = .ok (.goto 4, 3) := by decide +kernel
theorem dX3_search_88 : decode cX3_search 88 = .ok (.iconst 0, 1) := by decide +kernel
theorem dX3_search_89 : decode cX3_search 89 = .ok (.istore 7, 2) := by decide +kernel
theorem dX3_search_91 : decode cX3_search 91 = .ok (.iload 7, 2) := by decide +kernel
theorem dX3_search_93 : decode cX3_search 93 = .ok (.ifCond .eq 41, 3) := by decide +kernel
theorem dX3_search_96 : decode cX3_search 96 = .ok (.aload_n 0, 1) := by decide +kernel
theorem dX3_search_97 : decode cX3_search 97 = .ok (.getfield 18, 3) := by decide +kernel
theorem dX3_search_100 : decode cX3_search 100 = .ok (.ifCond .eq 12, 3) := by decide +kernel
theorem dX3_search_103 : decode cX3_search 103 = .ok (.iload 6, 2) := by decide +kernel
theorem dX3_search_105 : decode cX3_search 105 = .ok (.aload_n 0, 1) := by decide +kernel
theorem dX3_search_106 : decode cX3_search 106 = .ok (.getfield 22, 3) := by decide +kernel
theorem dX3_search_109 : decode cX3_search 109 = .ok (.if_icmp .ge 25, 3) := by decide +kernel
theorem dX3_search_112 : decode cX3_search 112 = .ok (.aload_n 0, 1) := by decide +kernel
theorem dX3_search_113 : decode cX3_search 113 = .ok (.iconst 1, 1) := by decide +kernel
theorem dX3_search_114 : decode cX3_search 114 = .ok (.putfield 18, 3) := by decide +kernel
theorem dX3_search_117 : decode cX3_search 117 = .ok (.aload_n 0, 1) := by decide +kernel
theorem dX3_search_118 : decode cX3_search 118 = .ok (.iload 6, 2) := by decide +kernel
theorem dX3_search_120 : decode cX3_search 120 = .ok (.putfield 22, 3) := by decide +kernel
theorem dX3_search_123 : decode cX3_search 123 = .ok (.aload_n 0, 1) := by decide +kernel
theorem dX3_search_124 : decode cX3_search 124 = .ok (.getfield 15, 3) := by decide +kernel
theorem dX3_search_127 : decode cX3_search 127 = .ok (.aload_n 0, 1) := by decide +kernel
theorem dX3_search_128 : decode cX3_search 128 = .ok (.getfield 9, 3) := by decide +kernel
theorem dX3_search_131 : decode cX3_search 131 = .ok (.invokestatic 50, 3) := by decide +kernel
theorem dX3_search_134 : decode cX3_search 134 = .ok (.aload_n 0, 1) := by decide +kernel
theorem dX3_search_135 : decode cX3_search 135 = .ok (.aload_n 1, 1) := by decide +kernel
theorem dX3_search_136 : decode cX3_search 136 = .ok (.getfield 26, 3) := by decide +kernel
theorem dX3_search_139 : decode cX3_search 139 = .ok (.invokevirtual 54, 3) := by decide +kernel
theorem dX3_search_142 : decode cX3_search 142 = .ok (.istore 4, 2) := by decide +kernel
theorem dX3_search_144 : decode cX3_search 144 = .ok (.iinc 5 1, 3) := by decide +kernel
theorem dX3_search_147 : decode cX3_search 147 = .ok (.goto (-102), 3) := by decide +kernel
theorem dX3_search_150 : decode cX3_search 150 = .ok (.return_, 1) := by decide +kernel
theorem dX3_next_0 : decode cX3_next 0 = .ok (.iload_n 1, 1) := by decide +kernel
theorem dX3_next_1 : decode cX3_next 1 = .ok (.iconst 2, 1) := by decide +kernel
theorem dX3_next_2 : decode cX3_next 2 = .ok (.isub, 1) := by decide +kernel
theorem dX3_next_3 : decode cX3_next 3 = .ok (.istore_n 2, 1) := by decide +kernel
theorem dX3_next_4 : decode cX3_next 4 = .ok (.iload_n 2, 1) := by decide +kernel
theorem dX3_next_5 : decode cX3_next 5 = .ok (.ifCond .lt 30, 3) := by decide +kernel
theorem dX3_next_8 : decode cX3_next 8 = .ok (.aload_n 0, 1) := by decide +kernel
theorem dX3_next_9 : decode cX3_next 9 = .ok (.getfield 15, 3) := by decide +kernel
theorem dX3_next_12 : decode cX3_next 12 = .ok (.iload_n 2, 1) := by decide +kernel
theorem dX3_next_13 : decode cX3_next 13 = .ok (.invokestatic 58, 3) := by decide +kernel
theorem dX3_next_16 : decode cX3_next 16 = .ok (.aload_n 0, 1) := by decide +kernel
theorem dX3_next_17 : decode cX3_next 17 = .ok (.getfield 15, 3) := by decide +kernel
theorem dX3_next_20 : decode cX3_next 20 = .ok (.iload_n 2, 1) := by decide +kernel
theorem dX3_next_21 : decode cX3_next 21 = .ok (.iconst 1, 1) := by decide +kernel
theorem dX3_next_22 : decode cX3_next 22 = .ok (.iadd, 1) := by decide +kernel
theorem dX3_next_23 : decode cX3_next 23 = .ok (.invokestatic 58, 3) := by decide +kernel
theorem dX3_next_26 : decode cX3_next 26 = .ok (.if_icmp .le 9, 3) := by decide +kernel
theorem dX3_next_29 : decode cX3_next 29 = .ok (.iinc 2 (-1), 3) := by decide +kernel
theorem dX3_next_32 : decode cX3_next 32 = .ok (.goto (-28), 3) := by decide +kernel
theorem dX3_next_35 : decode cX3_next 35 = .ok (.iload_n 2, 1) := by decide +kernel
theorem dX3_next_36 : decode cX3_next 36 = .ok (.ifCond .ge 5, 3) := by decide +kernel
theorem dX3_next_39 : decode cX3_next 39 = .ok (.iconst 0, 1) := by decide +kernel
theorem dX3_next_40 : decode cX3_next 40 = .ok (.ireturn, 1) := by decide +kernel
theorem dX3_next_41 : decode cX3_next 41 = .ok (.iload_n 1, 1) := by decide +kernel
theorem dX3_next_42 : decode cX3_next 42 = .ok (.iconst 1, 1) := by decide +kernel
theorem dX3_next_43 : decode cX3_next 43 = .ok (.isub, 1) := by decide +kernel
theorem dX3_next_44 : decode cX3_next 44 = .ok (.istore_n 3, 1) := by decide +kernel
theorem dX3_next_45 : decode cX3_next 45 = .ok (.iload_n 3, 1) := by decide +kernel
theorem dX3_next_46 : decode cX3_next 46 = .ok (.iload_n 2, 1) := by decide +kernel
theorem dX3_next_47 : decode cX3_next 47 = .ok (.if_icmp .le 28, 3) := by decide +kernel
theorem dX3_next_50 : decode cX3_next 50 = .ok (.aload_n 0, 1) := by decide +kernel
theorem dX3_next_51 : decode cX3_next 51 = .ok (.getfield 15, 3) := by decide +kernel
theorem dX3_next_54 : decode cX3_next 54 = .ok (.iload_n 3, 1) := by decide +kernel
theorem dX3_next_55 : decode cX3_next 55 = .ok (.invokestatic 58, 3) := by decide +kernel
theorem dX3_next_58 : decode cX3_next 58 = .ok (.aload_n 0, 1) := by decide +kernel
theorem dX3_next_59 : decode cX3_next 59 = .ok (.getfield 15, 3) := by decide +kernel
theorem dX3_next_62 : decode cX3_next 62 = .ok (.iload_n 2, 1) := by decide +kernel
theorem dX3_next_63 : decode cX3_next 63 = .ok (.invokestatic 58, 3) := by decide +kernel
theorem dX3_next_66 : decode cX3_next 66 = .ok (.if_icmp .ge 9, 3) := by decide +kernel
theorem dX3_next_69 : decode cX3_next 69 = .ok (.iinc 3 (-1), 3) := by decide +kernel
theorem dX3_next_72 : decode cX3_next 72 = .ok (.goto (-27), 3) := by decide +kernel
theorem dX3_next_75 : decode cX3_next 75 = .ok (.aload_n 0, 1) := by decide +kernel
theorem dX3_next_76 : decode cX3_next 76 = .ok (.getfield 15, 3) := by decide +kernel
theorem dX3_next_79 : decode cX3_next 79 = .ok (.iload_n 2, 1) := by decide +kernel
theorem dX3_next_80 : decode cX3_next 80 = .ok (.iload_n 3, 1) := by decide +kernel
theorem dX3_next_81 : decode cX3_next 81 = .ok (.invokestatic 62, 3) := by decide +kernel
theorem dX3_next_84 : decode cX3_next 84 = .ok (.iload_n 2, 1) := by decide +kernel
theorem dX3_next_85 : decode cX3_next 85 = .ok (.iconst 1, 1) := by decide +kernel
theorem dX3_next_86 : decode cX3_next 86 = .ok (.iadd, 1) := by decide +kernel
theorem dX3_next_87 : decode cX3_next 87 = .ok (.istore 4, 2) := by decide +kernel
theorem dX3_next_89 : decode cX3_next 89 = .ok (.iload_n 1, 1) := by decide +kernel
theorem dX3_next_90 : decode cX3_next 90 = .ok (.iconst 1, 1) := by decide +kernel
theorem dX3_next_91 : decode cX3_next 91 = .ok (.isub, 1) := by decide +kernel
theorem dX3_next_92 : decode cX3_next 92 = .ok (.istore 5, 2) := by decide +kernel
theorem dX3_next_94 : decode cX3_next 94 = .ok (.iload 4, 2) := by decide +kernel
theorem dX3_next_96 : decode cX3_next 96 = .ok (.iload 5, 2) := by decide +kernel
theorem dX3_next_98 : decode cX3_next 98 = .ok (.if_icmp .ge 23, 3) := by decide +kernel
theorem dX3_next_101 : decode cX3_next 101 = .ok (.aload_n 0, 1) := by decide +kernel
theorem dX3_next_102 : decode cX3_next 102 = .ok (.getfield 15, 3) := by decide +kernel
theorem dX3_next_105 : decode cX3_next 105 = .ok (.iload 4, 2) := by decide +kernel
theorem dX3_next_107 : decode cX3_next 107 = .ok (.iload 5, 2) := by decide +kernel
theorem dX3_next_109 : decode cX3_next 109 = .ok (.invokestatic 62, 3) := by decide +kernel
theorem dX3_next_112 : decode cX3_next 112 = .ok (.iinc 4 1, 3) := by decide +kernel
theorem dX3_next_115 : decode cX3_next 115 = .ok (.iinc 5 (-1), 3) := by decide +kernel
theorem dX3_next_118 : decode cX3_next 118 = .ok (.goto (-24), 3) := by decide +kernel
theorem dX3_next_121 : decode cX3_next 121 = .ok (.iconst 1, 1) := by decide +kernel
theorem dX3_next_122 : decode cX3_next 122 = .ok (.ireturn, 1) := by decide +kernel
theorem dX4_at_0 : decode cX4_at 0 = .ok (.iload_n 1, 1) := by decide +kernel
theorem dX4_at_1 : decode cX4_at 1 = .ok (.ifCond .lt 15, 3) := by decide +kernel
theorem dX4_at_4 : decode cX4_at 4 = .ok (.iload_n 1, 1) := by decide +kernel
theorem dX4_at_5 : decode cX4_at 5 = .ok (.aload_n 0, 1) := by decide +kernel
theorem dX4_at_6 : decode cX4_at 6 = .ok (.arraylength, 1) := by decide +kernel
theorem dX4_at_7 : decode cX4_at 7 = .ok (.if_icmp .ge 9, 3) := by decide +kernel
theorem dX4_at_10 : decode cX4_at 10 = .ok (.aload_n 0, 1) := by decide +kernel
theorem dX4_at_11 : decode cX4_at 11 = .ok (.iload_n 1, 1) := by decide +kernel
theorem dX4_at_12 : decode cX4_at 12 = .ok (.iaload, 1) := by decide +kernel
theorem dX4_at_13 : decode cX4_at 13 = .ok (.goto 4, 3) := by decide +kernel
theorem dX4_at_16 : decode cX4_at 16 = .ok (.iconst 0, 1) := by decide +kernel
theorem dX4_at_17 : decode cX4_at 17 = .ok (.ireturn, 1) := by decide +kernel
theorem dX4_put_0 : decode cX4_put 0 = .ok (.iload_n 1, 1) := by decide +kernel
theorem dX4_put_1 : decode cX4_put 1 = .ok (.ifCond .lt 13, 3) := by decide +kernel
theorem dX4_put_4 : decode cX4_put 4 = .ok (.iload_n 1, 1) := by decide +kernel
theorem dX4_put_5 : decode cX4_put 5 = .ok (.aload_n 0, 1) := by decide +kernel
theorem dX4_put_6 : decode cX4_put 6 = .ok (.arraylength, 1) := by decide +kernel
theorem dX4_put_7 : decode cX4_put 7 = .ok (.if_icmp .ge 7, 3) := by decide +kernel
theorem dX4_put_10 : decode cX4_put 10 = .ok (.aload_n 0, 1) := by decide +kernel
theorem dX4_put_11 : decode cX4_put 11 = .ok (.iload_n 1, 1) := by decide +kernel
theorem dX4_put_12 : decode cX4_put 12 = .ok (.iload_n 2, 1) := by decide +kernel
theorem dX4_put_13 : decode cX4_put 13 = .ok (.iastore, 1) := by decide +kernel
theorem dX4_put_14 : decode cX4_put 14 = .ok (.return_, 1) := by decide +kernel
theorem dX4_copy_0 : decode cX4_copy 0 = .ok (.iconst 0, 1) := by decide +kernel
theorem dX4_copy_1 : decode cX4_copy 1 = .ok (.istore_n 2, 1) := by decide +kernel
theorem dX4_copy_2 : decode cX4_copy 2 = .ok (.iload_n 2, 1) := by decide +kernel
theorem dX4_copy_3 : decode cX4_copy 3 = .ok (.aload_n 0, 1) := by decide +kernel
theorem dX4_copy_4 : decode cX4_copy 4 = .ok (.arraylength, 1) := by decide +kernel
theorem dX4_copy_5 : decode cX4_copy 5 = .ok (.if_icmp .ge 21, 3) := by decide +kernel
theorem dX4_copy_8 : decode cX4_copy 8 = .ok (.iload_n 2, 1) := by decide +kernel
theorem dX4_copy_9 : decode cX4_copy 9 = .ok (.aload_n 1, 1) := by decide +kernel
theorem dX4_copy_10 : decode cX4_copy 10 = .ok (.arraylength, 1) := by decide +kernel
theorem dX4_copy_11 : decode cX4_copy 11 = .ok (.if_icmp .ge 15, 3) := by decide +kernel
theorem dX4_copy_14 : decode cX4_copy 14 = .ok (.aload_n 1, 1) := by decide +kernel
theorem dX4_copy_15 : decode cX4_copy 15 = .ok (.iload_n 2, 1) := by decide +kernel
theorem dX4_copy_16 : decode cX4_copy 16 = .ok (.aload_n 0, 1) := by decide +kernel
theorem dX4_copy_17 : decode cX4_copy 17 = .ok (.iload_n 2, 1) := by decide +kernel
theorem dX4_copy_18 : decode cX4_copy 18 = .ok (.iaload, 1) := by decide +kernel
theorem dX4_copy_19 : decode cX4_copy 19 = .ok (.iastore, 1) := by decide +kernel
theorem dX4_copy_20 : decode cX4_copy 20 = .ok (.iinc 2 1, 3) := by decide +kernel
theorem dX4_copy_23 : decode cX4_copy 23 = .ok (.goto (-21), 3) := by decide +kernel
theorem dX4_copy_26 : decode cX4_copy 26 = .ok (.return_, 1) := by decide +kernel
theorem dX4_exchange_0 : decode cX4_exchange 0 = .ok (.aload_n 0, 1) := by decide +kernel
theorem dX4_exchange_1 : decode cX4_exchange 1 = .ok (.iload_n 1, 1) := by decide +kernel
theorem dX4_exchange_2 : decode cX4_exchange 2 = .ok (.invokestatic 7, 3) := by decide +kernel
theorem dX4_exchange_5 : decode cX4_exchange 5 = .ok (.istore_n 3, 1) := by decide +kernel
theorem dX4_exchange_6 : decode cX4_exchange 6 = .ok (.aload_n 0, 1) := by decide +kernel
theorem dX4_exchange_7 : decode cX4_exchange 7 = .ok (.iload_n 1, 1) := by decide +kernel
theorem dX4_exchange_8 : decode cX4_exchange 8 = .ok (.aload_n 0, 1) := by decide +kernel
theorem dX4_exchange_9 : decode cX4_exchange 9 = .ok (.iload_n 2, 1) := by decide +kernel
theorem dX4_exchange_10 : decode cX4_exchange 10 = .ok (.invokestatic 7, 3) := by decide +kernel
theorem dX4_exchange_13 : decode cX4_exchange 13 = .ok (.invokestatic 13, 3) := by decide +kernel
theorem dX4_exchange_16 : decode cX4_exchange 16 = .ok (.aload_n 0, 1) := by decide +kernel
theorem dX4_exchange_17 : decode cX4_exchange 17 = .ok (.iload_n 2, 1) := by decide +kernel
theorem dX4_exchange_18 : decode cX4_exchange 18 = .ok (.iload_n 3, 1) := by decide +kernel
theorem dX4_exchange_19 : decode cX4_exchange 19 = .ok (.invokestatic 13, 3) := by decide +kernel
theorem dX4_exchange_22 : decode cX4_exchange 22 = .ok (.return_, 1) := by decide +kernel
theorem dX5_init_0 : decode cX5_init 0 = .ok (.aload_n 0, 1) := by decide +kernel
theorem dX5_init_1 : decode cX5_init 1 = .ok (.invokespecial 3, 3) := by decide +kernel
theorem dX5_init_4 : decode cX5_init 4 = .ok (.aload_n 0, 1) := by decide +kernel
theorem dX5_init_5 : decode cX5_init 5 = .ok (.bipush 7, 2) := by decide +kernel
theorem dX5_init_7 : decode cX5_init 7 = .ok (.newarray .int, 2) := by decide +kernel
theorem dX5_init_9 : decode cX5_init 9 = .ok (.putfield 9, 3) := by decide +kernel
theorem dX5_init_12 : decode cX5_init 12 = .ok (.aload_n 0, 1) := by decide +kernel
theorem dX5_init_13 : decode cX5_init 13 = .ok (.bipush 7, 2) := by decide +kernel
theorem dX5_init_15 : decode cX5_init 15 = .ok (.newarray .int, 2) := by decide +kernel
theorem dX5_init_17 : decode cX5_init 17 = .ok (.putfield 15, 3) := by decide +kernel
theorem dX5_init_20 : decode cX5_init 20 = .ok (.aload_n 0, 1) := by decide +kernel
theorem dX5_init_21 : decode cX5_init 21 = .ok (.bipush 7, 2) := by decide +kernel
theorem dX5_init_23 : decode cX5_init 23 = .ok (.newarray .int, 2) := by decide +kernel
theorem dX5_init_25 : decode cX5_init 25 = .ok (.putfield 18, 3) := by decide +kernel
theorem dX5_init_28 : decode cX5_init 28 = .ok (.aload_n 0, 1) := by decide +kernel
theorem dX5_init_29 : decode cX5_init 29 = .ok (.bipush 7, 2) := by decide +kernel
theorem dX5_init_31 : decode cX5_init 31 = .ok (.newarray .int, 2) := by decide +kernel
theorem dX5_init_33 : decode cX5_init 33 = .ok (.putfield 21, 3) := by decide +kernel
theorem dX5_init_36 : decode cX5_init 36 = .ok (.aload_n 0, 1) := by decide +kernel
theorem dX5_init_37 : decode cX5_init 37 = .ok (.bipush 7, 2) := by decide +kernel
theorem dX5_init_39 : decode cX5_init 39 = .ok (.newarray .int, 2) := by decide +kernel
theorem dX5_init_41 : decode cX5_init 41 = .ok (.putfield 24, 3) := by decide +kernel
theorem dX5_init_44 : decode cX5_init 44 = .ok (.aload_n 0, 1) := by decide +kernel
theorem dX5_init_45 : decode cX5_init 45 = .ok (.bipush 7, 2) := by decide +kernel
theorem dX5_init_47 : decode cX5_init 47 = .ok (.newarray .int, 2) := by decide +kernel
theorem dX5_init_49 : decode cX5_init 49 = .ok (.putfield 27, 3) := by decide +kernel
theorem dX5_init_52 : decode cX5_init 52 = .ok (.aload_n 0, 1) := by decide +kernel
theorem dX5_init_53 : decode cX5_init 53 = .ok (.bipush 7, 2) := by decide +kernel
theorem dX5_init_55 : decode cX5_init 55 = .ok (.newarray .int, 2) := by decide +kernel
theorem dX5_init_57 : decode cX5_init 57 = .ok (.putfield 30, 3) := by decide +kernel
theorem dX5_init_60 : decode cX5_init 60 = .ok (.aload_n 0, 1) := by decide +kernel
theorem dX5_init_61 : decode cX5_init 61 = .ok (.bipush 12, 2) := by decide +kernel
theorem dX5_init_63 : decode cX5_init 63 = .ok (.newarray .int, 2) := by decide +kernel
theorem dX5_init_65 : decode cX5_init 65 = .ok (.putfield 33, 3) := by decide +kernel
theorem dX5_init_68 : decode cX5_init 68 = .ok (.aload_n 0, 1) := by decide +kernel
theorem dX5_init_69 : decode cX5_init 69 = .ok (.iconst 2, 1) := by decide +kernel
theorem dX5_init_70 : decode cX5_init 70 = .ok (.newarray .int, 2) := by decide +kernel
theorem dX5_init_72 : decode cX5_init 72 = .ok (.putfield 36, 3) := by decide +kernel
theorem dX5_init_75 : decode cX5_init 75 = .ok (.aload_n 0, 1) := by decide +kernel
theorem dX5_init_76 : decode cX5_init 76 = .ok (.iconst 2, 1) := by decide +kernel
theorem dX5_init_77 : decode cX5_init 77 = .ok (.newarray .int, 2) := by decide +kernel
theorem dX5_init_79 : decode cX5_init 79 = .ok (.putfield 39, 3) := by decide +kernel
theorem dX5_init_82 : decode cX5_init 82 = .ok (.return_, 1) := by decide +kernel
theorem dX5_firstLamp_0 : decode cX5_firstLamp 0 = .ok (.aload_n 0, 1) := by decide +kernel
theorem dX5_firstLamp_1 : decode cX5_firstLamp 1 = .ok (.getfield 36, 3) := by decide +kernel
theorem dX5_firstLamp_4 : decode cX5_firstLamp 4 = .ok (.iconst 0, 1) := by decide +kernel
theorem dX5_firstLamp_5 : decode cX5_firstLamp 5 = .ok (.invokestatic 42, 3) := by decide +kernel
theorem dX5_firstLamp_8 : decode cX5_firstLamp 8 = .ok (.ireturn, 1) := by decide +kernel
theorem dX5_oilLeft_0 : decode cX5_oilLeft 0 = .ok (.aload_n 0, 1) := by decide +kernel
theorem dX5_oilLeft_1 : decode cX5_oilLeft 1 = .ok (.getfield 39, 3) := by decide +kernel
theorem dX5_oilLeft_4 : decode cX5_oilLeft 4 = .ok (.iconst 0, 1) := by decide +kernel
theorem dX5_oilLeft_5 : decode cX5_oilLeft 5 = .ok (.invokestatic 42, 3) := by decide +kernel
theorem dX5_oilLeft_8 : decode cX5_oilLeft 8 = .ok (.ireturn, 1) := by decide +kernel
theorem dX5_byHours_0 : decode cX5_byHours 0 = .ok (.aload_n 0, 1) := by decide +kernel
theorem dX5_byHours_1 : decode cX5_byHours 1 = .ok (.aload_n 1, 1) := by decide +kernel
theorem dX5_byHours_2 : decode cX5_byHours 2 = .ok (.invokevirtual 48, 3) := by decide +kernel
theorem dX5_byHours_5 : decode cX5_byHours 5 = .ok (.iconst 0, 1) := by decide +kernel
theorem dX5_byHours_6 : decode cX5_byHours 6 = .ok (.istore_n 2, 1) := by decide +kernel
theorem dX5_byHours_7 : decode cX5_byHours 7 = .ok (.iload_n 2, 1) := by decide +kernel
theorem dX5_byHours_8 : decode cX5_byHours 8 = .ok (.bipush 12, 2) := by decide +kernel
theorem dX5_byHours_10 : decode cX5_byHours 10 = .ok (.if_icmp .ge 55, 3) := by decide +kernel
theorem dX5_byHours_13 : decode cX5_byHours 13 = .ok (.iconst 0, 1) := by decide +kernel
theorem dX5_byHours_14 : decode cX5_byHours 14 = .ok (.istore_n 3, 1) := by decide +kernel
theorem dX5_byHours_15 : decode cX5_byHours 15 = .ok (.iload_n 3, 1) := by decide +kernel
theorem dX5_byHours_16 : decode cX5_byHours 16 = .ok (.aload_n 1, 1) := by decide +kernel
theorem dX5_byHours_17 : decode cX5_byHours 17 = .ok (.getfield 52, 3) := by decide +kernel
theorem dX5_byHours_20 : decode cX5_byHours 20 = .ok (.if_icmp .ge 27, 3) := by decide +kernel
theorem dX5_byHours_23 : decode cX5_byHours 23 = .ok (.aload_n 1, 1) := by decide +kernel
theorem dX5_byHours_24 : decode cX5_byHours 24 = .ok (.getfield 58, 3) := by decide +kernel
theorem dX5_byHours_27 : decode cX5_byHours 27 = .ok (.iload_n 3, 1) := by decide +kernel
theorem dX5_byHours_28 : decode cX5_byHours 28 = .ok (.invokestatic 42, 3) := by decide +kernel
theorem dX5_byHours_31 : decode cX5_byHours 31 = .ok (.iload_n 2, 1) := by decide +kernel
theorem dX5_byHours_32 : decode cX5_byHours 32 = .ok (.if_icmp .ne 9, 3) := by decide +kernel
theorem dX5_byHours_35 : decode cX5_byHours 35 = .ok (.aload_n 0, 1) := by decide +kernel
theorem dX5_byHours_36 : decode cX5_byHours 36 = .ok (.aload_n 1, 1) := by decide +kernel
theorem dX5_byHours_37 : decode cX5_byHours 37 = .ok (.iload_n 3, 1) := by decide +kernel
theorem dX5_byHours_38 : decode cX5_byHours 38 = .ok (.invokevirtual 61, 3) := by decide +kernel
theorem dX5_byHours_41 : decode cX5_byHours 41 = .ok (.iinc 3 1, 3) := by decide +kernel
theorem dX5_byHours_44 : decode cX5_byHours 44 = .ok (.goto (-29), 3) := by decide +kernel
theorem dX5_byHours_47 : decode cX5_byHours 47 = .ok (.aload_n 0, 1) := by decide +kernel
theorem dX5_byHours_48 : decode cX5_byHours 48 = .ok (.getfield 33, 3) := by decide +kernel
theorem dX5_byHours_51 : decode cX5_byHours 51 = .ok (.iload_n 2, 1) := by decide +kernel
theorem dX5_byHours_52 : decode cX5_byHours 52 = .ok (.aload_n 0, 1) := by decide +kernel
theorem dX5_byHours_53 : decode cX5_byHours 53 = .ok (.invokevirtual 65, 3) := by decide +kernel
theorem dX5_byHours_56 : decode cX5_byHours 56 = .ok (.invokestatic 69, 3) := by decide +kernel
theorem dX5_byHours_59 : decode cX5_byHours 59 = .ok (.iinc 2 1, 3) := by decide +kernel
theorem dX5_byHours_62 : decode cX5_byHours 62 = .ok (.goto (-55), 3) := by decide +kernel
theorem dX5_byHours_65 : decode cX5_byHours 65 = .ok (.aload_n 0, 1) := by decide +kernel
theorem dX5_byHours_66 : decode cX5_byHours 66 = .ok (.getfield 73, 3) := by decide +kernel
theorem dX5_byHours_69 : decode cX5_byHours 69 = .ok (.ireturn, 1) := by decide +kernel
theorem dX5_inOrder_0 : decode cX5_inOrder 0 = .ok (.aload_n 0, 1) := by decide +kernel
theorem dX5_inOrder_1 : decode cX5_inOrder 1 = .ok (.aload_n 1, 1) := by decide +kernel
theorem dX5_inOrder_2 : decode cX5_inOrder 2 = .ok (.invokevirtual 48, 3) := by decide +kernel
theorem dX5_inOrder_5 : decode cX5_inOrder 5 = .ok (.iconst 0, 1) := by decide +kernel
theorem dX5_inOrder_6 : decode cX5_inOrder 6 = .ok (.istore_n 3, 1) := by decide +kernel
theorem dX5_inOrder_7 : decode cX5_inOrder 7 = .ok (.iload_n 3, 1) := by decide +kernel
theorem dX5_inOrder_8 : decode cX5_inOrder 8 = .ok (.aload_n 1, 1) := by decide +kernel
theorem dX5_inOrder_9 : decode cX5_inOrder 9 = .ok (.getfield 52, 3) := by decide +kernel
theorem dX5_inOrder_12 : decode cX5_inOrder 12 = .ok (.if_icmp .ge 19, 3) := by decide +kernel
theorem dX5_inOrder_15 : decode cX5_inOrder 15 = .ok (.aload_n 0, 1) := by decide +kernel
theorem dX5_inOrder_16 : decode cX5_inOrder 16 = .ok (.aload_n 1, 1) := by decide +kernel
theorem dX5_inOrder_17 : decode cX5_inOrder 17 = .ok (.aload_n 2, 1) := by decide +kernel
theorem dX5_inOrder_18 : decode cX5_inOrder 18 = .ok (.iload_n 3, 1) := by decide +kernel
theorem dX5_inOrder_19 : decode cX5_inOrder 19 = .ok (.invokestatic 42, 3) := by decide +kernel
theorem dX5_inOrder_22 : decode cX5_inOrder 22 = .ok (.invokevirtual 61, 3) := by decide +kernel
theorem dX5_inOrder_25 : decode cX5_inOrder 25 = .ok (.iinc 3 1, 3) := by decide +kernel
theorem dX5_inOrder_28 : decode cX5_inOrder 28 = .ok (.goto (-21), 3) := by decide +kernel
theorem dX5_inOrder_31 : decode cX5_inOrder 31 = .ok (.aload_n 0, 1) := by decide +kernel
theorem dX5_inOrder_32 : decode cX5_inOrder 32 = .ok (.getfield 73, 3) := by decide +kernel
theorem dX5_inOrder_35 : decode cX5_inOrder 35 = .ok (.ireturn, 1) := by decide +kernel
theorem dX5_begin_0 : decode cX5_begin 0 = .ok (.aload_n 0, 1) := by decide +kernel
theorem dX5_begin_1 : decode cX5_begin 1 = .ok (.iconst 0, 1) := by decide +kernel
theorem dX5_begin_2 : decode cX5_begin 2 = .ok (.putfield 76, 3) := by decide +kernel
theorem dX5_begin_5 : decode cX5_begin 5 = .ok (.aload_n 0, 1) := by decide +kernel
theorem dX5_begin_6 : decode cX5_begin 6 = .ok (.aload_n 1, 1) := by decide +kernel
theorem dX5_begin_7 : decode cX5_begin 7 = .ok (.invokevirtual 79, 3) := by decide +kernel
theorem dX5_begin_10 : decode cX5_begin 10 = .ok (.aload_n 1, 1) := by decide +kernel
theorem dX5_begin_11 : decode cX5_begin 11 = .ok (.invokevirtual 82, 3) := by decide +kernel
theorem dX5_begin_14 : decode cX5_begin 14 = .ok (.invokevirtual 85, 3) := by decide +kernel
theorem dX5_begin_17 : decode cX5_begin 17 = .ok (.aload_n 1, 1) := by decide +kernel
theorem dX5_begin_18 : decode cX5_begin 18 = .ok (.getfield 89, 3) := by decide +kernel
theorem dX5_begin_21 : decode cX5_begin 21 = .ok (.iconst (-1), 1) := by decide +kernel
theorem dX5_begin_22 : decode cX5_begin 22 = .ok (.if_icmp .eq 15, 3) := by decide +kernel
theorem dX5_begin_25 : decode cX5_begin 25 = .ok (.aload_n 0, 1) := by decide +kernel
theorem dX5_begin_26 : decode cX5_begin 26 = .ok (.aload_n 1, 1) := by decide +kernel
theorem dX5_begin_27 : decode cX5_begin 27 = .ok (.getfield 89, 3) := by decide +kernel
theorem dX5_begin_30 : decode cX5_begin 30 = .ok (.aload_n 1, 1) := by decide +kernel
theorem dX5_begin_31 : decode cX5_begin 31 = .ok (.invokevirtual 82, 3) := by decide +kernel
theorem dX5_begin_34 : decode cX5_begin 34 = .ok (.invokevirtual 85, 3) := by decide +kernel
theorem dX5_begin_37 : decode cX5_begin 37 = .ok (.aload_n 0, 1) := by decide +kernel
theorem dX5_begin_38 : decode cX5_begin 38 = .ok (.iconst 0, 1) := by decide +kernel
theorem dX5_begin_39 : decode cX5_begin 39 = .ok (.putfield 92, 3) := by decide +kernel
theorem dX5_begin_42 : decode cX5_begin 42 = .ok (.aload_n 0, 1) := by decide +kernel
theorem dX5_begin_43 : decode cX5_begin 43 = .ok (.iconst 0, 1) := by decide +kernel
theorem dX5_begin_44 : decode cX5_begin 44 = .ok (.putfield 73, 3) := by decide +kernel
theorem dX5_begin_47 : decode cX5_begin 47 = .ok (.aload_n 0, 1) := by decide +kernel
theorem dX5_begin_48 : decode cX5_begin 48 = .ok (.iconst 0, 1) := by decide +kernel
theorem dX5_begin_49 : decode cX5_begin 49 = .ok (.putfield 95, 3) := by decide +kernel
theorem dX5_begin_52 : decode cX5_begin 52 = .ok (.aload_n 0, 1) := by decide +kernel
theorem dX5_begin_53 : decode cX5_begin 53 = .ok (.iconst 0, 1) := by decide +kernel
theorem dX5_begin_54 : decode cX5_begin 54 = .ok (.putfield 98, 3) := by decide +kernel
theorem dX5_begin_57 : decode cX5_begin 57 = .ok (.aload_n 0, 1) := by decide +kernel
theorem dX5_begin_58 : decode cX5_begin 58 = .ok (.iconst 0, 1) := by decide +kernel
theorem dX5_begin_59 : decode cX5_begin 59 = .ok (.putfield 101, 3) := by decide +kernel
theorem dX5_begin_62 : decode cX5_begin 62 = .ok (.aload_n 0, 1) := by decide +kernel
theorem dX5_begin_63 : decode cX5_begin 63 = .ok (.bipush (-9), 2) := by decide +kernel
theorem dX5_begin_65 : decode cX5_begin 65 = .ok (.putfield 104, 3) := by decide +kernel
theorem dX5_begin_68 : decode cX5_begin 68 = .ok (.return_, 1) := by decide +kernel
theorem dX5_addLamp_0 : decode cX5_addLamp 0 = .ok (.aload_n 0, 1) := by decide +kernel
theorem dX5_addLamp_1 : decode cX5_addLamp 1 = .ok (.getfield 36, 3) := by decide +kernel
theorem dX5_addLamp_4 : decode cX5_addLamp 4 = .ok (.aload_n 0, 1) := by decide +kernel
theorem dX5_addLamp_5 : decode cX5_addLamp 5 = .ok (.getfield 76, 3) := by decide +kernel
theorem dX5_addLamp_8 : decode cX5_addLamp 8 = .ok (.iload_n 1, 1) := by decide +kernel
theorem dX5_addLamp_9 : decode cX5_addLamp 9 = .ok (.invokestatic 69, 3) := by decide +kernel
theorem dX5_addLamp_12 : decode cX5_addLamp 12 = .ok (.aload_n 0, 1) := by decide +kernel
theorem dX5_addLamp_13 : decode cX5_addLamp 13 = .ok (.getfield 39, 3) := by decide +kernel
theorem dX5_addLamp_16 : decode cX5_addLamp 16 = .ok (.aload_n 0, 1) := by decide +kernel
theorem dX5_addLamp_17 : decode cX5_addLamp 17 = .ok (.getfield 76, 3) := by decide +kernel
theorem dX5_addLamp_20 : decode cX5_addLamp 20 = .ok (.iload_n 2, 1) := by decide +kernel
theorem dX5_addLamp_21 : decode cX5_addLamp 21 = .ok (.invokestatic 69, 3) := by decide +kernel
theorem dX5_addLamp_24 : decode cX5_addLamp 24 = .ok (.aload_n 0, 1) := by decide +kernel
theorem dX5_addLamp_25 : decode cX5_addLamp 25 = .ok (.dup, 1) := by decide +kernel
theorem dX5_addLamp_26 : decode cX5_addLamp 26 = .ok (.getfield 76, 3) := by decide +kernel
theorem dX5_addLamp_29 : decode cX5_addLamp 29 = .ok (.iconst 1, 1) := by decide +kernel
theorem dX5_addLamp_30 : decode cX5_addLamp 30 = .ok (.iadd, 1) := by decide +kernel
theorem dX5_addLamp_31 : decode cX5_addLamp 31 = .ok (.putfield 76, 3) := by decide +kernel
theorem dX5_addLamp_34 : decode cX5_addLamp 34 = .ok (.return_, 1) := by decide +kernel
theorem dX5_go_0 : decode cX5_go 0 = .ok (.aload_n 0, 1) := by decide +kernel
theorem dX5_go_1 : decode cX5_go 1 = .ok (.getfield 21, 3) := by decide +kernel
theorem dX5_go_4 : decode cX5_go 4 = .ok (.iload_n 2, 1) := by decide +kernel
theorem dX5_go_5 : decode cX5_go 5 = .ok (.aload_n 0, 1) := by decide +kernel
theorem dX5_go_6 : decode cX5_go 6 = .ok (.invokevirtual 65, 3) := by decide +kernel
theorem dX5_go_9 : decode cX5_go 9 = .ok (.invokestatic 69, 3) := by decide +kernel
theorem dX5_go_12 : decode cX5_go 12 = .ok (.aload_n 0, 1) := by decide +kernel
theorem dX5_go_13 : decode cX5_go 13 = .ok (.aload_n 1, 1) := by decide +kernel
theorem dX5_go_14 : decode cX5_go 14 = .ok (.iload_n 2, 1) := by decide +kernel
theorem dX5_go_15 : decode cX5_go 15 = .ok (.invokevirtual 107, 3) := by decide +kernel
theorem dX5_go_18 : decode cX5_go 18 = .ok (.istore_n 3, 1) := by decide +kernel
theorem dX5_go_19 : decode cX5_go 19 = .ok (.iload_n 3, 1) := by decide +kernel
theorem dX5_go_20 : decode cX5_go 20 = .ok (.iconst (-1), 1) := by decide +kernel
theorem dX5_go_21 : decode cX5_go 21 = .ok (.if_icmp .ne 12, 3) := by decide +kernel
theorem dX5_go_24 : decode cX5_go 24 = .ok (.aload_n 0, 1) := by decide +kernel
theorem dX5_go_25 : decode cX5_go 25 = .ok (.aload_n 1, 1) := by decide +kernel
theorem dX5_go_26 : decode cX5_go 26 = .ok (.iload_n 2, 1) := by decide +kernel
theorem dX5_go_27 : decode cX5_go 27 = .ok (.invokevirtual 111, 3) := by decide +kernel
theorem dX5_go_30 : decode cX5_go 30 = .ok (.goto 10, 3) := by decide +kernel
theorem dX5_go_33 : decode cX5_go 33 = .ok (.aload_n 0, 1) := by decide +kernel
theorem dX5_go_34 : decode cX5_go 34 = .ok (.aload_n 1, 1) := by decide +kernel
theorem dX5_go_35 : decode cX5_go 35 = .ok (.iload_n 2, 1) := by decide +kernel
theorem dX5_go_36 : decode cX5_go 36 = .ok (.iload_n 3, 1) := by decide +kernel
theorem dX5_go_37 : decode cX5_go 37 = .ok (.invokevirtual 114, 3) := by decide +kernel
theorem dX5_go_40 : decode cX5_go 40 = .ok (.aload_n 0, 1) := by decide +kernel
theorem dX5_go_41 : decode cX5_go 41 = .ok (.getfield 9, 3) := by decide +kernel
theorem dX5_go_44 : decode cX5_go 44 = .ok (.iload_n 2, 1) := by decide +kernel
theorem dX5_go_45 : decode cX5_go 45 = .ok (.invokestatic 42, 3) := by decide +kernel
theorem dX5_go_48 : decode cX5_go 48 = .ok (.aload_n 1, 1) := by decide +kernel
theorem dX5_go_49 : decode cX5_go 49 = .ok (.iload_n 2, 1) := by decide +kernel
theorem dX5_go_50 : decode cX5_go 50 = .ok (.invokevirtual 118, 3) := by decide +kernel
theorem dX5_go_53 : decode cX5_go 53 = .ok (.imul, 1) := by decide +kernel
theorem dX5_go_54 : decode cX5_go 54 = .ok (.istore 4, 2) := by decide +kernel
theorem dX5_go_56 : decode cX5_go 56 = .ok (.aload_n 0, 1) := by decide +kernel
theorem dX5_go_57 : decode cX5_go 57 = .ok (.getfield 18, 3) := by decide +kernel
theorem dX5_go_60 : decode cX5_go 60 = .ok (.iload_n 2, 1) := by decide +kernel
theorem dX5_go_61 : decode cX5_go 61 = .ok (.iload 4, 2) := by decide +kernel
theorem dX5_go_63 : decode cX5_go 63 = .ok (.invokestatic 69, 3) := by decide +kernel
theorem dX5_go_66 : decode cX5_go 66 = .ok (.aload_n 0, 1) := by decide +kernel
theorem dX5_go_67 : decode cX5_go 67 = .ok (.dup, 1) := by decide +kernel
theorem dX5_go_68 : decode cX5_go 68 = .ok (.getfield 73, 3) := by decide +kernel
theorem dX5_go_71 : decode cX5_go 71 = .ok (.iload 4, 2) := by decide +kernel
theorem dX5_go_73 : decode cX5_go 73 = .ok (.iadd, 1) := by decide +kernel
theorem dX5_go_74 : decode cX5_go 74 = .ok (.putfield 73, 3) := by decide +kernel
theorem dX5_go_77 : decode cX5_go 77 = .ok (.aload_n 0, 1) := by decide +kernel
theorem dX5_go_78 : decode cX5_go 78 = .ok (.dup, 1) := by decide +kernel
theorem dX5_go_79 : decode cX5_go 79 = .ok (.getfield 95, 3) := by decide +kernel
theorem dX5_go_82 : decode cX5_go 82 = .ok (.aload_n 0, 1) := by decide +kernel
theorem dX5_go_83 : decode cX5_go 83 = .ok (.getfield 9, 3) := by decide +kernel
theorem dX5_go_86 : decode cX5_go 86 = .ok (.iload_n 2, 1) := by decide +kernel
theorem dX5_go_87 : decode cX5_go 87 = .ok (.invokestatic 42, 3) := by decide +kernel
theorem dX5_go_90 : decode cX5_go 90 = .ok (.iadd, 1) := by decide +kernel
theorem dX5_go_91 : decode cX5_go 91 = .ok (.putfield 95, 3) := by decide +kernel
theorem dX5_go_94 : decode cX5_go 94 = .ok (.aload_n 0, 1) := by decide +kernel
theorem dX5_go_95 : decode cX5_go 95 = .ok (.dup, 1) := by decide +kernel
theorem dX5_go_96 : decode cX5_go 96 = .ok (.getfield 98, 3) := by decide +kernel
theorem dX5_go_99 : decode cX5_go 99 = .ok (.aload_n 0, 1) := by decide +kernel
theorem dX5_go_100 : decode cX5_go 100 = .ok (.getfield 15, 3) := by decide +kernel
theorem dX5_go_103 : decode cX5_go 103 = .ok (.iload_n 2, 1) := by decide +kernel
theorem dX5_go_104 : decode cX5_go 104 = .ok (.invokestatic 42, 3) := by decide +kernel
theorem dX5_go_107 : decode cX5_go 107 = .ok (.iadd, 1) := by decide +kernel
theorem dX5_go_108 : decode cX5_go 108 = .ok (.putfield 98, 3) := by decide +kernel
theorem dX5_go_111 : decode cX5_go 111 = .ok (.aload_n 0, 1) := by decide +kernel
theorem dX5_go_112 : decode cX5_go 112 = .ok (.getfield 27, 3) := by decide +kernel
theorem dX5_go_115 : decode cX5_go 115 = .ok (.aload_n 0, 1) := by decide +kernel
theorem dX5_go_116 : decode cX5_go 116 = .ok (.getfield 92, 3) := by decide +kernel
theorem dX5_go_119 : decode cX5_go 119 = .ok (.iload_n 2, 1) := by decide +kernel
theorem dX5_go_120 : decode cX5_go 120 = .ok (.invokestatic 69, 3) := by decide +kernel
theorem dX5_go_123 : decode cX5_go 123 = .ok (.aload_n 0, 1) := by decide +kernel
theorem dX5_go_124 : decode cX5_go 124 = .ok (.getfield 30, 3) := by decide +kernel
theorem dX5_go_127 : decode cX5_go 127 = .ok (.aload_n 0, 1) := by decide +kernel
theorem dX5_go_128 : decode cX5_go 128 = .ok (.getfield 92, 3) := by decide +kernel
theorem dX5_go_131 : decode cX5_go 131 = .ok (.aload_n 0, 1) := by decide +kernel
theorem dX5_go_132 : decode cX5_go 132 = .ok (.invokevirtual 65, 3) := by decide +kernel
theorem dX5_go_135 : decode cX5_go 135 = .ok (.invokestatic 69, 3) := by decide +kernel
theorem dX5_go_138 : decode cX5_go 138 = .ok (.aload_n 0, 1) := by decide +kernel
theorem dX5_go_139 : decode cX5_go 139 = .ok (.dup, 1) := by decide +kernel
theorem dX5_go_140 : decode cX5_go 140 = .ok (.getfield 92, 3) := by decide +kernel
theorem dX5_go_143 : decode cX5_go 143 = .ok (.iconst 1, 1) := by decide +kernel
theorem dX5_go_144 : decode cX5_go 144 = .ok (.iadd, 1) := by decide +kernel
theorem dX5_go_145 : decode cX5_go 145 = .ok (.putfield 92, 3) := by decide +kernel
theorem dX5_go_148 : decode cX5_go 148 = .ok (.return_, 1) := by decide +kernel
theorem dX5_lampThatHeHas_0 : decode cX5_lampThatHeHas 0 = .ok (.aload_n 1, 1) := by decide +kernel
theorem dX5_lampThatHeHas_1 : decode cX5_lampThatHeHas 1 = .ok (.getfield 122, 3) := by decide +kernel
theorem dX5_lampThatHeHas_4 : decode cX5_lampThatHeHas 4 = .ok (.iload_n 2, 1) := by decide +kernel
theorem dX5_lampThatHeHas_5 : decode cX5_lampThatHeHas 5 = .ok (.invokestatic 42, 3) := by decide +kernel
theorem dX5_lampThatHeHas_8 : decode cX5_lampThatHeHas 8 = .ok (.istore_n 3, 1) := by decide +kernel
theorem dX5_lampThatHeHas_9 : decode cX5_lampThatHeHas 9 = .ok (.iconst (-1), 1) := by decide +kernel
theorem dX5_lampThatHeHas_10 : decode cX5_lampThatHeHas 10 = .ok (.istore 4, 2) := by decide +kernel
theorem dX5_lampThatHeHas_12 : decode cX5_lampThatHeHas 12 = .ok (.aload_n 1, 1) := by decide +kernel
theorem dX5_lampThatHeHas_13 : decode cX5_lampThatHeHas 13 = .ok (.iload_n 2, 1) := by decide +kernel
theorem dX5_lampThatHeHas_14 : decode cX5_lampThatHeHas 14 = .ok (.invokevirtual 125, 3) := by decide +kernel
theorem dX5_lampThatHeHas_17 : decode cX5_lampThatHeHas 17 = .ok (.iconst 1, 1) := by decide +kernel
theorem dX5_lampThatHeHas_18 : decode cX5_lampThatHeHas 18 = .ok (.iadd, 1) := by decide +kernel
theorem dX5_lampThatHeHas_19 : decode cX5_lampThatHeHas 19 = .ok (.istore 5, 2) := by decide +kernel
theorem dX5_lampThatHeHas_21 : decode cX5_lampThatHeHas 21 = .ok (.iconst 0, 1) := by decide +kernel
theorem dX5_lampThatHeHas_22 : decode cX5_lampThatHeHas 22 = .ok (.istore 6, 2) := by decide +kernel
theorem dX5_lampThatHeHas_24 : decode cX5_lampThatHeHas 24 = .ok (.iload 6, 2) := by decide +kernel
theorem dX5_lampThatHeHas_26 : decode cX5_lampThatHeHas 26 = .ok (.aload_n 0, 1) := by decide +kernel
theorem dX5_lampThatHeHas_27 : decode cX5_lampThatHeHas 27 = .ok (.getfield 76, 3) := by decide +kernel
theorem dX5_lampThatHeHas_30 : decode cX5_lampThatHeHas 30 = .ok (.if_icmp .ge 52, 3) := by decide +kernel
theorem dX5_lampThatHeHas_33 : decode cX5_lampThatHeHas 33 = .ok (.aload_n 0, 1) := by decide +kernel
theorem dX5_lampThatHeHas_34 : decode cX5_lampThatHeHas 34 = .ok (.getfield 36, 3) := by decide +kernel
theorem dX5_lampThatHeHas_37 : decode cX5_lampThatHeHas 37 = .ok (.iload 6, 2) := by decide +kernel
theorem dX5_lampThatHeHas_39 : decode cX5_lampThatHeHas 39 = .ok (.invokestatic 42, 3) := by decide +kernel
theorem dX5_lampThatHeHas_42 : decode cX5_lampThatHeHas 42 = .ok (.iload_n 3, 1) := by decide +kernel
theorem dX5_lampThatHeHas_43 : decode cX5_lampThatHeHas 43 = .ok (.isub, 1) := by decide +kernel
theorem dX5_lampThatHeHas_44 : decode cX5_lampThatHeHas 44 = .ok (.invokestatic 128, 3) := by decide +kernel
theorem dX5_lampThatHeHas_47 : decode cX5_lampThatHeHas 47 = .ok (.istore 7, 2) := by decide +kernel
theorem dX5_lampThatHeHas_49 : decode cX5_lampThatHeHas 49 = .ok (.aload_n 0, 1) := by decide +kernel
theorem dX5_lampThatHeHas_50 : decode cX5_lampThatHeHas 50 = .ok (.getfield 39, 3) := by decide +kernel
theorem dX5_lampThatHeHas_53 : decode cX5_lampThatHeHas 53 = .ok (.iload 6, 2) := by decide +kernel
theorem dX5_lampThatHeHas_55 : decode cX5_lampThatHeHas 55 = .ok (.invokestatic 42, 3) := by decide +kernel
theorem dX5_lampThatHeHas_58 : decode cX5_lampThatHeHas 58 = .ok (.ifCond .le 18, 3) := by decide +kernel
theorem dX5_lampThatHeHas_61 : decode cX5_lampThatHeHas 61 = .ok (.iload 7, 2) := by decide +kernel
theorem dX5_lampThatHeHas_63 : decode cX5_lampThatHeHas 63 = .ok (.iload 5, 2) := by decide +kernel
theorem dX5_lampThatHeHas_65 : decode cX5_lampThatHeHas 65 = .ok (.if_icmp .ge 11, 3) := by decide +kernel
theorem dX5_lampThatHeHas_68 : decode cX5_lampThatHeHas 68 = .ok (.iload 6, 2) := by decide +kernel
theorem dX5_lampThatHeHas_70 : decode cX5_lampThatHeHas 70 = .ok (.istore 4, 2) := by decide +kernel
theorem dX5_lampThatHeHas_72 : decode cX5_lampThatHeHas 72 = .ok (.iload 7, 2) := by decide +kernel
theorem dX5_lampThatHeHas_74 : decode cX5_lampThatHeHas 74 = .ok (.istore 5, 2) := by decide +kernel
theorem dX5_lampThatHeHas_76 : decode cX5_lampThatHeHas 76 = .ok (.iinc 6 1, 3) := by decide +kernel
theorem dX5_lampThatHeHas_79 : decode cX5_lampThatHeHas 79 = .ok (.goto (-55), 3) := by decide +kernel
theorem dX5_lampThatHeHas_82 : decode cX5_lampThatHeHas 82 = .ok (.iload 4, 2) := by decide +kernel
theorem dX5_lampThatHeHas_84 : decode cX5_lampThatHeHas 84 = .ok (.ireturn, 1) := by decide +kernel
theorem dX5_goInTheDark_0 : decode cX5_goInTheDark 0 = .ok (.aload_n 0, 1) := by decide +kernel
theorem dX5_goInTheDark_1 : decode cX5_goInTheDark 1 = .ok (.getfield 9, 3) := by decide +kernel
theorem dX5_goInTheDark_4 : decode cX5_goInTheDark 4 = .ok (.iload_n 2, 1) := by decide +kernel
theorem dX5_goInTheDark_5 : decode cX5_goInTheDark 5 = .ok (.aload_n 1, 1) := by decide +kernel
theorem dX5_goInTheDark_6 : decode cX5_goInTheDark 6 = .ok (.iload_n 2, 1) := by decide +kernel
theorem dX5_goInTheDark_7 : decode cX5_goInTheDark 7 = .ok (.invokevirtual 133, 3) := by decide +kernel
theorem dX5_goInTheDark_10 : decode cX5_goInTheDark 10 = .ok (.invokestatic 69, 3) := by decide +kernel
theorem dX5_goInTheDark_13 : decode cX5_goInTheDark 13 = .ok (.aload_n 0, 1) := by decide +kernel
theorem dX5_goInTheDark_14 : decode cX5_goInTheDark 14 = .ok (.getfield 15, 3) := by decide +kernel
theorem dX5_goInTheDark_17 : decode cX5_goInTheDark 17 = .ok (.iload_n 2, 1) := by decide +kernel
theorem dX5_goInTheDark_18 : decode cX5_goInTheDark 18 = .ok (.iconst 0, 1) := by decide +kernel
theorem dX5_goInTheDark_19 : decode cX5_goInTheDark 19 = .ok (.invokestatic 69, 3) := by decide +kernel
theorem dX5_goInTheDark_22 : decode cX5_goInTheDark 22 = .ok (.aload_n 0, 1) := by decide +kernel
theorem dX5_goInTheDark_23 : decode cX5_goInTheDark 23 = .ok (.getfield 24, 3) := by decide +kernel
theorem dX5_goInTheDark_26 : decode cX5_goInTheDark 26 = .ok (.iload_n 2, 1) := by decide +kernel
theorem dX5_goInTheDark_27 : decode cX5_goInTheDark 27 = .ok (.iconst 0, 1) := by decide +kernel
theorem dX5_goInTheDark_28 : decode cX5_goInTheDark 28 = .ok (.invokestatic 69, 3) := by decide +kernel
theorem dX5_goInTheDark_31 : decode cX5_goInTheDark 31 = .ok (.return_, 1) := by decide +kernel
theorem dX5_goWithLamp_0 : decode cX5_goWithLamp 0 = .ok (.aload_n 0, 1) := by decide +kernel
theorem dX5_goWithLamp_1 : decode cX5_goWithLamp 1 = .ok (.getfield 36, 3) := by decide +kernel
theorem dX5_goWithLamp_4 : decode cX5_goWithLamp 4 = .ok (.iload_n 3, 1) := by decide +kernel
theorem dX5_goWithLamp_5 : decode cX5_goWithLamp 5 = .ok (.invokestatic 42, 3) := by decide +kernel
theorem dX5_goWithLamp_8 : decode cX5_goWithLamp 8 = .ok (.istore 4, 2) := by decide +kernel
theorem dX5_goWithLamp_10 : decode cX5_goWithLamp 10 = .ok (.aload_n 0, 1) := by decide +kernel
theorem dX5_goWithLamp_11 : decode cX5_goWithLamp 11 = .ok (.getfield 39, 3) := by decide +kernel
theorem dX5_goWithLamp_14 : decode cX5_goWithLamp 14 = .ok (.iload_n 3, 1) := by decide +kernel
theorem dX5_goWithLamp_15 : decode cX5_goWithLamp 15 = .ok (.invokestatic 42, 3) := by decide +kernel
theorem dX5_goWithLamp_18 : decode cX5_goWithLamp 18 = .ok (.istore 5, 2) := by decide +kernel
theorem dX5_goWithLamp_20 : decode cX5_goWithLamp 20 = .ok (.aload_n 1, 1) := by decide +kernel
theorem dX5_goWithLamp_21 : decode cX5_goWithLamp 21 = .ok (.iload_n 2, 1) := by decide +kernel
theorem dX5_goWithLamp_22 : decode cX5_goWithLamp 22 = .ok (.iload 4, 2) := by decide +kernel
theorem dX5_goWithLamp_24 : decode cX5_goWithLamp 24 = .ok (.invokevirtual 136, 3) := by decide +kernel
theorem dX5_goWithLamp_27 : decode cX5_goWithLamp 27 = .ok (.istore 6, 2) := by decide +kernel
theorem dX5_goWithLamp_29 : decode cX5_goWithLamp 29 = .ok (.aload_n 1, 1) := by decide +kernel
theorem dX5_goWithLamp_30 : decode cX5_goWithLamp 30 = .ok (.iload_n 2, 1) := by decide +kernel
theorem dX5_goWithLamp_31 : decode cX5_goWithLamp 31 = .ok (.iload 6, 2) := by decide +kernel
theorem dX5_goWithLamp_33 : decode cX5_goWithLamp 33 = .ok (.invokevirtual 140, 3) := by decide +kernel
theorem dX5_goWithLamp_36 : decode cX5_goWithLamp 36 = .ok (.istore 7, 2) := by decide +kernel
theorem dX5_goWithLamp_38 : decode cX5_goWithLamp 38 = .ok (.iload 6, 2) := by decide +kernel
theorem dX5_goWithLamp_40 : decode cX5_goWithLamp 40 = .ok (.iload 4, 2) := by decide +kernel
theorem dX5_goWithLamp_42 : decode cX5_goWithLamp 42 = .ok (.isub, 1) := by decide +kernel
theorem dX5_goWithLamp_43 : decode cX5_goWithLamp 43 = .ok (.invokestatic 128, 3) := by decide +kernel
theorem dX5_goWithLamp_46 : decode cX5_goWithLamp 46 = .ok (.iload 7, 2) := by decide +kernel
theorem dX5_goWithLamp_48 : decode cX5_goWithLamp 48 = .ok (.iload 6, 2) := by decide +kernel
theorem dX5_goWithLamp_50 : decode cX5_goWithLamp 50 = .ok (.isub, 1) := by decide +kernel
theorem dX5_goWithLamp_51 : decode cX5_goWithLamp 51 = .ok (.invokestatic 128, 3) := by decide +kernel
theorem dX5_goWithLamp_54 : decode cX5_goWithLamp 54 = .ok (.iadd, 1) := by decide +kernel
theorem dX5_goWithLamp_55 : decode cX5_goWithLamp 55 = .ok (.istore 8, 2) := by decide +kernel
theorem dX5_goWithLamp_57 : decode cX5_goWithLamp 57 = .ok (.iload 4, 2) := by decide +kernel
theorem dX5_goWithLamp_59 : decode cX5_goWithLamp 59 = .ok (.aload_n 1, 1) := by decide +kernel
theorem dX5_goWithLamp_60 : decode cX5_goWithLamp 60 = .ok (.getfield 122, 3) := by decide +kernel
theorem dX5_goWithLamp_63 : decode cX5_goWithLamp 63 = .ok (.iload_n 2, 1) := by decide +kernel
theorem dX5_goWithLamp_64 : decode cX5_goWithLamp 64 = .ok (.invokestatic 42, 3) := by decide +kernel
theorem dX5_goWithLamp_67 : decode cX5_goWithLamp 67 = .ok (.isub, 1) := by decide +kernel
theorem dX5_goWithLamp_68 : decode cX5_goWithLamp 68 = .ok (.invokestatic 128, 3) := by decide +kernel
theorem dX5_goWithLamp_71 : decode cX5_goWithLamp 71 = .ok (.aload_n 1, 1) := by decide +kernel
theorem dX5_goWithLamp_72 : decode cX5_goWithLamp 72 = .ok (.getfield 143, 3) := by decide +kernel
theorem dX5_goWithLamp_75 : decode cX5_goWithLamp 75 = .ok (.iload_n 2, 1) := by decide +kernel
theorem dX5_goWithLamp_76 : decode cX5_goWithLamp 76 = .ok (.invokestatic 42, 3) := by decide +kernel
theorem dX5_goWithLamp_79 : decode cX5_goWithLamp 79 = .ok (.iload 6, 2) := by decide +kernel
theorem dX5_goWithLamp_81 : decode cX5_goWithLamp 81 = .ok (.isub, 1) := by decide +kernel
theorem dX5_goWithLamp_82 : decode cX5_goWithLamp 82 = .ok (.invokestatic 128, 3) := by decide +kernel
theorem dX5_goWithLamp_85 : decode cX5_goWithLamp 85 = .ok (.iadd, 1) := by decide +kernel
theorem dX5_goWithLamp_86 : decode cX5_goWithLamp 86 = .ok (.istore 9, 2) := by decide +kernel
theorem dX5_goWithLamp_88 : decode cX5_goWithLamp 88 = .ok (.iload 8, 2) := by decide +kernel
theorem dX5_goWithLamp_90 : decode cX5_goWithLamp 90 = .ok (.iload 5, 2) := by decide +kernel
theorem dX5_goWithLamp_92 : decode cX5_goWithLamp 92 = .ok (.invokestatic 146, 3) := by decide +kernel
theorem dX5_goWithLamp_95 : decode cX5_goWithLamp 95 = .ok (.istore 10, 2) := by decide +kernel
theorem dX5_goWithLamp_97 : decode cX5_goWithLamp 97 = .ok (.aload_n 0, 1) := by decide +kernel
theorem dX5_goWithLamp_98 : decode cX5_goWithLamp 98 = .ok (.getfield 9, 3) := by decide +kernel
theorem dX5_goWithLamp_101 : decode cX5_goWithLamp 101 = .ok (.iload_n 2, 1) := by decide +kernel
theorem dX5_goWithLamp_102 : decode cX5_goWithLamp 102 = .ok (.iload 9, 2) := by decide +kernel
theorem dX5_goWithLamp_104 : decode cX5_goWithLamp 104 = .ok (.iload 8, 2) := by decide +kernel
theorem dX5_goWithLamp_106 : decode cX5_goWithLamp 106 = .ok (.iadd, 1) := by decide +kernel
theorem dX5_goWithLamp_107 : decode cX5_goWithLamp 107 = .ok (.iload 10, 2) := by decide +kernel
theorem dX5_goWithLamp_109 : decode cX5_goWithLamp 109 = .ok (.isub, 1) := by decide +kernel
theorem dX5_goWithLamp_110 : decode cX5_goWithLamp 110 = .ok (.invokestatic 69, 3) := by decide +kernel
theorem dX5_goWithLamp_113 : decode cX5_goWithLamp 113 = .ok (.aload_n 0, 1) := by decide +kernel
theorem dX5_goWithLamp_114 : decode cX5_goWithLamp 114 = .ok (.getfield 15, 3) := by decide +kernel
theorem dX5_goWithLamp_117 : decode cX5_goWithLamp 117 = .ok (.iload_n 2, 1) := by decide +kernel
theorem dX5_goWithLamp_118 : decode cX5_goWithLamp 118 = .ok (.iload 10, 2) := by decide +kernel
theorem dX5_goWithLamp_120 : decode cX5_goWithLamp 120 = .ok (.invokestatic 69, 3) := by decide +kernel
theorem dX5_goWithLamp_123 : decode cX5_goWithLamp 123 = .ok (.aload_n 0, 1) := by decide +kernel
theorem dX5_goWithLamp_124 : decode cX5_goWithLamp 124 = .ok (.getfield 24, 3) := by decide +kernel
theorem dX5_goWithLamp_127 : decode cX5_goWithLamp 127 = .ok (.iload_n 2, 1) := by decide +kernel
theorem dX5_goWithLamp_128 : decode cX5_goWithLamp 128 = .ok (.iconst 1, 1) := by decide +kernel
theorem dX5_goWithLamp_129 : decode cX5_goWithLamp 129 = .ok (.invokestatic 69, 3) := by decide +kernel
theorem dX5_goWithLamp_132 : decode cX5_goWithLamp 132 = .ok (.aload_n 0, 1) := by decide +kernel
theorem dX5_goWithLamp_133 : decode cX5_goWithLamp 133 = .ok (.getfield 36, 3) := by decide +kernel
theorem dX5_goWithLamp_136 : decode cX5_goWithLamp 136 = .ok (.iload_n 3, 1) := by decide +kernel
theorem dX5_goWithLamp_137 : decode cX5_goWithLamp 137 = .ok (.iload 7, 2) := by decide +kernel
theorem dX5_goWithLamp_139 : decode cX5_goWithLamp 139 = .ok (.invokestatic 69, 3) := by decide +kernel
theorem dX5_goWithLamp_142 : decode cX5_goWithLamp 142 = .ok (.aload_n 0, 1) := by decide +kernel
theorem dX5_goWithLamp_143 : decode cX5_goWithLamp 143 = .ok (.getfield 39, 3) := by decide +kernel
theorem dX5_goWithLamp_146 : decode cX5_goWithLamp 146 = .ok (.iload_n 3, 1) := by decide +kernel
theorem dX5_goWithLamp_147 : decode cX5_goWithLamp 147 = .ok (.iload 5, 2) := by decide +kernel
theorem dX5_goWithLamp_149 : decode cX5_goWithLamp 149 = .ok (.iload 10, 2) := by decide +kernel
theorem dX5_goWithLamp_151 : decode cX5_goWithLamp 151 = .ok (.isub, 1) := by decide +kernel
theorem dX5_goWithLamp_152 : decode cX5_goWithLamp 152 = .ok (.invokestatic 69, 3) := by decide +kernel
theorem dX5_goWithLamp_155 : decode cX5_goWithLamp 155 = .ok (.aload_n 0, 1) := by decide +kernel
theorem dX5_goWithLamp_156 : decode cX5_goWithLamp 156 = .ok (.dup, 1) := by decide +kernel
theorem dX5_goWithLamp_157 : decode cX5_goWithLamp 157 = .ok (.getfield 101, 3) := by decide +kernel
theorem dX5_goWithLamp_160 : decode cX5_goWithLamp 160 = .ok (.iconst 1, 1) := by decide +kernel
theorem dX5_goWithLamp_161 : decode cX5_goWithLamp 161 = .ok (.iadd, 1) := by decide +kernel
theorem dX5_goWithLamp_162 : decode cX5_goWithLamp 162 = .ok (.putfield 101, 3) := by decide +kernel
theorem dX5_goWithLamp_165 : decode cX5_goWithLamp 165 = .ok (.aload_n 0, 1) := by decide +kernel
theorem dX5_goWithLamp_166 : decode cX5_goWithLamp 166 = .ok (.iload_n 2, 1) := by decide +kernel
theorem dX5_goWithLamp_167 : decode cX5_goWithLamp 167 = .ok (.putfield 104, 3) := by decide +kernel
theorem dX5_goWithLamp_170 : decode cX5_goWithLamp 170 = .ok (.return_, 1) := by decide +kernel
theorem dX6_init_0 : decode cX6_init 0 = .ok (.aload_n 0, 1) := by decide +kernel
theorem dX6_init_1 : decode cX6_init 1 = .ok (.invokespecial 1, 3) := by decide +kernel
theorem dX6_init_4 : decode cX6_init 4 = .ok (.aload_n 0, 1) := by decide +kernel
theorem dX6_init_5 : decode cX6_init 5 = .ok (.new 7, 3) := by decide +kernel
theorem dX6_init_8 : decode cX6_init 8 = .ok (.dup, 1) := by decide +kernel
theorem dX6_init_9 : decode cX6_init 9 = .ok (.invokespecial 9, 3) := by decide +kernel
theorem dX6_init_12 : decode cX6_init 12 = .ok (.putfield 10, 3) := by decide +kernel
theorem dX6_init_15 : decode cX6_init 15 = .ok (.aload_n 0, 1) := by decide +kernel
theorem dX6_init_16 : decode cX6_init 16 = .ok (.new 7, 3) := by decide +kernel
theorem dX6_init_19 : decode cX6_init 19 = .ok (.dup, 1) := by decide +kernel
theorem dX6_init_20 : decode cX6_init 20 = .ok (.invokespecial 9, 3) := by decide +kernel
theorem dX6_init_23 : decode cX6_init 23 = .ok (.putfield 16, 3) := by decide +kernel
theorem dX6_init_26 : decode cX6_init 26 = .ok (.aload_n 0, 1) := by decide +kernel
theorem dX6_init_27 : decode cX6_init 27 = .ok (.new 7, 3) := by decide +kernel
theorem dX6_init_30 : decode cX6_init 30 = .ok (.dup, 1) := by decide +kernel
theorem dX6_init_31 : decode cX6_init 31 = .ok (.invokespecial 9, 3) := by decide +kernel
theorem dX6_init_34 : decode cX6_init 34 = .ok (.putfield 19, 3) := by decide +kernel
theorem dX6_init_37 : decode cX6_init 37 = .ok (.aload_n 0, 1) := by decide +kernel
theorem dX6_init_38 : decode cX6_init 38 = .ok (.new 22, 3) := by decide +kernel
theorem dX6_init_41 : decode cX6_init 41 = .ok (.dup, 1) := by decide +kernel
theorem dX6_init_42 : decode cX6_init 42 = .ok (.invokespecial 24, 3) := by decide +kernel
theorem dX6_init_45 : decode cX6_init 45 = .ok (.putfield 25, 3) := by decide +kernel
theorem dX6_init_48 : decode cX6_init 48 = .ok (.aload_n 0, 1) := by decide +kernel
theorem dX6_init_49 : decode cX6_init 49 = .ok (.new 29, 3) := by decide +kernel
theorem dX6_init_52 : decode cX6_init 52 = .ok (.dup, 1) := by decide +kernel
theorem dX6_init_53 : decode cX6_init 53 = .ok (.invokespecial 31, 3) := by decide +kernel
theorem dX6_init_56 : decode cX6_init 56 = .ok (.putfield 32, 3) := by decide +kernel
theorem dX6_init_59 : decode cX6_init 59 = .ok (.aload_n 0, 1) := by decide +kernel
theorem dX6_init_60 : decode cX6_init 60 = .ok (.new 36, 3) := by decide +kernel
theorem dX6_init_63 : decode cX6_init 63 = .ok (.dup, 1) := by decide +kernel
theorem dX6_init_64 : decode cX6_init 64 = .ok (.invokespecial 38, 3) := by decide +kernel
theorem dX6_init_67 : decode cX6_init 67 = .ok (.putfield 39, 3) := by decide +kernel
theorem dX6_init_70 : decode cX6_init 70 = .ok (.aload_n 0, 1) := by decide +kernel
theorem dX6_init_71 : decode cX6_init 71 = .ok (.new 43, 3) := by decide +kernel
theorem dX6_init_74 : decode cX6_init 74 = .ok (.dup, 1) := by decide +kernel
theorem dX6_init_75 : decode cX6_init 75 = .ok (.invokespecial 45, 3) := by decide +kernel
theorem dX6_init_78 : decode cX6_init 78 = .ok (.putfield 46, 3) := by decide +kernel
theorem dX6_init_81 : decode cX6_init 81 = .ok (.aload_n 0, 1) := by decide +kernel
theorem dX6_init_82 : decode cX6_init 82 = .ok (.bipush 12, 2) := by decide +kernel
theorem dX6_init_84 : decode cX6_init 84 = .ok (.newarray .int, 2) := by decide +kernel
theorem dX6_init_86 : decode cX6_init 86 = .ok (.putfield 50, 3) := by decide +kernel
theorem dX6_init_89 : decode cX6_init 89 = .ok (.aload_n 0, 1) := by decide +kernel
theorem dX6_init_90 : decode cX6_init 90 = .ok (.bipush 7, 2) := by decide +kernel
theorem dX6_init_92 : decode cX6_init 92 = .ok (.newarray .int, 2) := by decide +kernel
theorem dX6_init_94 : decode cX6_init 94 = .ok (.putfield 54, 3) := by decide +kernel
theorem dX6_init_97 : decode cX6_init 97 = .ok (.aload_n 0, 1) := by decide +kernel
theorem dX6_init_98 : decode cX6_init 98 = .ok (.iconst 0, 1) := by decide +kernel
theorem dX6_init_99 : decode cX6_init 99 = .ok (.putfield 57, 3) := by decide +kernel
theorem dX6_init_102 : decode cX6_init 102 = .ok (.aload_n 0, 1) := by decide +kernel
theorem dX6_init_103 : decode cX6_init 103 = .ok (.iconst 0, 1) := by decide +kernel
theorem dX6_init_104 : decode cX6_init 104 = .ok (.putfield 61, 3) := by decide +kernel
theorem dX6_init_107 : decode cX6_init 107 = .ok (.return_, 1) := by decide +kernel
theorem dX6_letter_0 : decode cX6_letter 0 = .ok (.iload_n 1, 1) := by decide +kernel
theorem dX6_letter_1 : decode cX6_letter 1 = .ok (.ifCond .ge 10, 3) := by decide +kernel
theorem dX6_letter_4 : decode cX6_letter 4 = .ok (.aload_n 0, 1) := by decide +kernel
theorem dX6_letter_5 : decode cX6_letter 5 = .ok (.bipush (-4), 2) := by decide +kernel
theorem dX6_letter_7 : decode cX6_letter 7 = .ok (.invokevirtual 65, 3) := by decide +kernel
theorem dX6_letter_10 : decode cX6_letter 10 = .ok (.ireturn, 1) := by decide +kernel
theorem dX6_letter_11 : decode cX6_letter 11 = .ok (.iload_n 1, 1) := by decide +kernel
theorem dX6_letter_12 : decode cX6_letter 12 = .ok (.sipush 255, 3) := by decide +kernel
theorem dX6_letter_15 : decode cX6_letter 15 = .ok (.if_icmp .gt 15, 3) := by decide +kernel
theorem dX6_letter_18 : decode cX6_letter 18 = .ok (.aload_n 0, 1) := by decide +kernel
theorem dX6_letter_19 : decode cX6_letter 19 = .ok (.getfield 25, 3) := by decide +kernel
theorem dX6_letter_22 : decode cX6_letter 22 = .ok (.getfield 69, 3) := by decide +kernel
theorem dX6_letter_25 : decode cX6_letter 25 = .ok (.bipush 96, 2) := by decide +kernel
theorem dX6_letter_27 : decode cX6_letter 27 = .ok (.if_icmp .lt 10, 3) := by decide +kernel
theorem dX6_letter_30 : decode cX6_letter 30 = .ok (.aload_n 0, 1) := by decide +kernel
theorem dX6_letter_31 : decode cX6_letter 31 = .ok (.bipush (-6), 2) := by decide +kernel
theorem dX6_letter_33 : decode cX6_letter 33 = .ok (.invokevirtual 65, 3) := by decide +kernel
theorem dX6_letter_36 : decode cX6_letter 36 = .ok (.ireturn, 1) := by decide +kernel
theorem dX6_letter_37 : decode cX6_letter 37 = .ok (.aload_n 0, 1) := by decide +kernel
theorem dX6_letter_38 : decode cX6_letter 38 = .ok (.getfield 25, 3) := by decide +kernel
theorem dX6_letter_41 : decode cX6_letter 41 = .ok (.iload_n 1, 1) := by decide +kernel
theorem dX6_letter_42 : decode cX6_letter 42 = .ok (.invokevirtual 72, 3) := by decide +kernel
theorem dX6_letter_45 : decode cX6_letter 45 = .ok (.aload_n 0, 1) := by decide +kernel
theorem dX6_letter_46 : decode cX6_letter 46 = .ok (.getfield 25, 3) := by decide +kernel
theorem dX6_letter_49 : decode cX6_letter 49 = .ok (.getfield 69, 3) := by decide +kernel
theorem dX6_letter_52 : decode cX6_letter 52 = .ok (.ireturn, 1) := by decide +kernel
theorem dX6_night_0 : decode cX6_night 0 = .ok (.aload_n 0, 1) := by decide +kernel
theorem dX6_night_1 : decode cX6_night 1 = .ok (.getfield 19, 3) := by decide +kernel
theorem dX6_night_4 : decode cX6_night 4 = .ok (.aload_n 0, 1) := by decide +kernel
theorem dX6_night_5 : decode cX6_night 5 = .ok (.getfield 10, 3) := by decide +kernel
theorem dX6_night_8 : decode cX6_night 8 = .ok (.invokevirtual 76, 3) := by decide +kernel
theorem dX6_night_11 : decode cX6_night 11 = .ok (.aload_n 0, 1) := by decide +kernel
theorem dX6_night_12 : decode cX6_night 12 = .ok (.getfield 25, 3) := by decide +kernel
theorem dX6_night_15 : decode cX6_night 15 = .ok (.aload_n 0, 1) := by decide +kernel
theorem dX6_night_16 : decode cX6_night 16 = .ok (.getfield 19, 3) := by decide +kernel
theorem dX6_night_19 : decode cX6_night 19 = .ok (.invokevirtual 80, 3) := by decide +kernel
theorem dX6_night_22 : decode cX6_night 22 = .ok (.istore_n 1, 1) := by decide +kernel
theorem dX6_night_23 : decode cX6_night 23 = .ok (.iload_n 1, 1) := by decide +kernel
theorem dX6_night_24 : decode cX6_night 24 = .ok (.ifCond .lt 14, 3) := by decide +kernel
theorem dX6_night_27 : decode cX6_night 27 = .ok (.aload_n 0, 1) := by decide +kernel
theorem dX6_night_28 : decode cX6_night 28 = .ok (.getfield 10, 3) := by decide +kernel
theorem dX6_night_31 : decode cX6_night 31 = .ok (.aload_n 0, 1) := by decide +kernel
theorem dX6_night_32 : decode cX6_night 32 = .ok (.getfield 19, 3) := by decide +kernel
theorem dX6_night_35 : decode cX6_night 35 = .ok (.invokevirtual 76, 3) := by decide +kernel
theorem dX6_night_38 : decode cX6_night 38 = .ok (.aload_n 0, 1) := by decide +kernel
theorem dX6_night_39 : decode cX6_night 39 = .ok (.getfield 25, 3) := by decide +kernel
theorem dX6_night_42 : decode cX6_night 42 = .ok (.iconst 0, 1) := by decide +kernel
theorem dX6_night_43 : decode cX6_night 43 = .ok (.putfield 69, 3) := by decide +kernel
theorem dX6_night_46 : decode cX6_night 46 = .ok (.iload_n 1, 1) := by decide +kernel
theorem dX6_night_47 : decode cX6_night 47 = .ok (.ireturn, 1) := by decide +kernel
theorem dX6_goer_0 : decode cX6_goer 0 = .ok (.aload_n 0, 1) := by decide +kernel
theorem dX6_goer_1 : decode cX6_goer 1 = .ok (.getfield 10, 3) := by decide +kernel
theorem dX6_goer_4 : decode cX6_goer 4 = .ok (.iload_n 1, 1) := by decide +kernel
theorem dX6_goer_5 : decode cX6_goer 5 = .ok (.invokevirtual 84, 3) := by decide +kernel
theorem dX6_goer_8 : decode cX6_goer 8 = .ok (.ifCond .ne 9, 3) := by decide +kernel
theorem dX6_goer_11 : decode cX6_goer 11 = .ok (.aload_n 0, 1) := by decide +kernel
theorem dX6_goer_12 : decode cX6_goer 12 = .ok (.iconst (-1), 1) := by decide +kernel
theorem dX6_goer_13 : decode cX6_goer 13 = .ok (.invokevirtual 65, 3) := by decide +kernel
theorem dX6_goer_16 : decode cX6_goer 16 = .ok (.ireturn, 1) := by decide +kernel
theorem dX6_goer_17 : decode cX6_goer 17 = .ok (.iload_n 2, 1) := by decide +kernel
theorem dX6_goer_18 : decode cX6_goer 18 = .ok (.tableswitch 120 0 6 #[42, 54, 66, 78, 90, 102, 111], 42) := by decide +kernel
theorem dX6_goer_60 : decode cX6_goer 60 = .ok (.aload_n 0, 1) := by decide +kernel
theorem dX6_goer_61 : decode cX6_goer 61 = .ok (.getfield 10, 3) := by decide +kernel
theorem dX6_goer_64 : decode cX6_goer 64 = .ok (.getfield 88, 3) := by decide +kernel
theorem dX6_goer_67 : decode cX6_goer 67 = .ok (.iload_n 1, 1) := by decide +kernel
theorem dX6_goer_68 : decode cX6_goer 68 = .ok (.invokestatic 91, 3) := by decide +kernel
theorem dX6_goer_71 : decode cX6_goer 71 = .ok (.ireturn, 1) := by decide +kernel
theorem dX6_goer_72 : decode cX6_goer 72 = .ok (.aload_n 0, 1) := by decide +kernel
theorem dX6_goer_73 : decode cX6_goer 73 = .ok (.getfield 10, 3) := by decide +kernel
theorem dX6_goer_76 : decode cX6_goer 76 = .ok (.getfield 97, 3) := by decide +kernel
theorem dX6_goer_79 : decode cX6_goer 79 = .ok (.iload_n 1, 1) := by decide +kernel
theorem dX6_goer_80 : decode cX6_goer 80 = .ok (.invokestatic 91, 3) := by decide +kernel
theorem dX6_goer_83 : decode cX6_goer 83 = .ok (.ireturn, 1) := by decide +kernel
theorem dX6_goer_84 : decode cX6_goer 84 = .ok (.aload_n 0, 1) := by decide +kernel
theorem dX6_goer_85 : decode cX6_goer 85 = .ok (.getfield 10, 3) := by decide +kernel
theorem dX6_goer_88 : decode cX6_goer 88 = .ok (.getfield 100, 3) := by decide +kernel
theorem dX6_goer_91 : decode cX6_goer 91 = .ok (.iload_n 1, 1) := by decide +kernel
theorem dX6_goer_92 : decode cX6_goer 92 = .ok (.invokestatic 91, 3) := by decide +kernel
theorem dX6_goer_95 : decode cX6_goer 95 = .ok (.ireturn, 1) := by decide +kernel
theorem dX6_goer_96 : decode cX6_goer 96 = .ok (.aload_n 0, 1) := by decide +kernel
theorem dX6_goer_97 : decode cX6_goer 97 = .ok (.getfield 10, 3) := by decide +kernel
theorem dX6_goer_100 : decode cX6_goer 100 = .ok (.getfield 103, 3) := by decide +kernel
theorem dX6_goer_103 : decode cX6_goer 103 = .ok (.iload_n 1, 1) := by decide +kernel
theorem dX6_goer_104 : decode cX6_goer 104 = .ok (.invokestatic 91, 3) := by decide +kernel
theorem dX6_goer_107 : decode cX6_goer 107 = .ok (.ireturn, 1) := by decide +kernel
theorem dX6_goer_108 : decode cX6_goer 108 = .ok (.aload_n 0, 1) := by decide +kernel
theorem dX6_goer_109 : decode cX6_goer 109 = .ok (.getfield 10, 3) := by decide +kernel
theorem dX6_goer_112 : decode cX6_goer 112 = .ok (.getfield 106, 3) := by decide +kernel
theorem dX6_goer_115 : decode cX6_goer 115 = .ok (.iload_n 1, 1) := by decide +kernel
theorem dX6_goer_116 : decode cX6_goer 116 = .ok (.invokestatic 91, 3) := by decide +kernel
theorem dX6_goer_119 : decode cX6_goer 119 = .ok (.ireturn, 1) := by decide +kernel
theorem dX6_goer_120 : decode cX6_goer 120 = .ok (.aload_n 0, 1) := by decide +kernel
theorem dX6_goer_121 : decode cX6_goer 121 = .ok (.getfield 10, 3) := by decide +kernel
theorem dX6_goer_124 : decode cX6_goer 124 = .ok (.iload_n 1, 1) := by decide +kernel
theorem dX6_goer_125 : decode cX6_goer 125 = .ok (.invokevirtual 109, 3) := by decide +kernel
theorem dX6_goer_128 : decode cX6_goer 128 = .ok (.ireturn, 1) := by decide +kernel
theorem dX6_goer_129 : decode cX6_goer 129 = .ok (.aload_n 0, 1) := by decide +kernel
theorem dX6_goer_130 : decode cX6_goer 130 = .ok (.getfield 10, 3) := by decide +kernel
theorem dX6_goer_133 : decode cX6_goer 133 = .ok (.iload_n 1, 1) := by decide +kernel
theorem dX6_goer_134 : decode cX6_goer 134 = .ok (.invokevirtual 112, 3) := by decide +kernel
theorem dX6_goer_137 : decode cX6_goer 137 = .ok (.ireturn, 1) := by decide +kernel
theorem dX6_goer_138 : decode cX6_goer 138 = .ok (.aload_n 0, 1) := by decide +kernel
theorem dX6_goer_139 : decode cX6_goer 139 = .ok (.bipush (-2), 2) := by decide +kernel
theorem dX6_goer_141 : decode cX6_goer 141 = .ok (.invokevirtual 65, 3) := by decide +kernel
theorem dX6_goer_144 : decode cX6_goer 144 = .ok (.ireturn, 1) := by decide +kernel
theorem dX6_hour_0 : decode cX6_hour 0 = .ok (.aload_n 0, 1) := by decide +kernel
theorem dX6_hour_1 : decode cX6_hour 1 = .ok (.getfield 10, 3) := by decide +kernel
theorem dX6_hour_4 : decode cX6_hour 4 = .ok (.iload_n 1, 1) := by decide +kernel
theorem dX6_hour_5 : decode cX6_hour 5 = .ok (.invokevirtual 84, 3) := by decide +kernel
theorem dX6_hour_8 : decode cX6_hour 8 = .ok (.ifCond .ne 9, 3) := by decide +kernel
theorem dX6_hour_11 : decode cX6_hour 11 = .ok (.aload_n 0, 1) := by decide +kernel
theorem dX6_hour_12 : decode cX6_hour 12 = .ok (.iconst (-1), 1) := by decide +kernel
theorem dX6_hour_13 : decode cX6_hour 13 = .ok (.invokevirtual 65, 3) := by decide +kernel
theorem dX6_hour_16 : decode cX6_hour 16 = .ok (.ireturn, 1) := by decide +kernel
theorem dX6_hour_17 : decode cX6_hour 17 = .ok (.iload_n 2, 1) := by decide +kernel
theorem dX6_hour_18 : decode cX6_hour 18 = .ok (.ifCond .ge 10, 3) := by decide +kernel
theorem dX6_hour_21 : decode cX6_hour 21 = .ok (.aload_n 0, 1) := by decide +kernel
theorem dX6_hour_22 : decode cX6_hour 22 = .ok (.bipush (-4), 2) := by decide +kernel
theorem dX6_hour_24 : decode cX6_hour 24 = .ok (.invokevirtual 65, 3) := by decide +kernel
theorem dX6_hour_27 : decode cX6_hour 27 = .ok (.ireturn, 1) := by decide +kernel
theorem dX6_hour_28 : decode cX6_hour 28 = .ok (.iload_n 2, 1) := by decide +kernel
theorem dX6_hour_29 : decode cX6_hour 29 = .ok (.bipush 12, 2) := by decide +kernel
theorem dX6_hour_31 : decode cX6_hour 31 = .ok (.if_icmp .lt 10, 3) := by decide +kernel
theorem dX6_hour_34 : decode cX6_hour 34 = .ok (.aload_n 0, 1) := by decide +kernel
theorem dX6_hour_35 : decode cX6_hour 35 = .ok (.bipush (-6), 2) := by decide +kernel
theorem dX6_hour_37 : decode cX6_hour 37 = .ok (.invokevirtual 65, 3) := by decide +kernel
theorem dX6_hour_40 : decode cX6_hour 40 = .ok (.ireturn, 1) := by decide +kernel
theorem dX6_hour_41 : decode cX6_hour 41 = .ok (.aload_n 0, 1) := by decide +kernel
theorem dX6_hour_42 : decode cX6_hour 42 = .ok (.getfield 10, 3) := by decide +kernel
theorem dX6_hour_45 : decode cX6_hour 45 = .ok (.getfield 106, 3) := by decide +kernel
theorem dX6_hour_48 : decode cX6_hour 48 = .ok (.iload_n 1, 1) := by decide +kernel
theorem dX6_hour_49 : decode cX6_hour 49 = .ok (.invokestatic 91, 3) := by decide +kernel
theorem dX6_hour_52 : decode cX6_hour 52 = .ok (.istore_n 3, 1) := by decide +kernel
theorem dX6_hour_53 : decode cX6_hour 53 = .ok (.aload_n 0, 1) := by decide +kernel
theorem dX6_hour_54 : decode cX6_hour 54 = .ok (.getfield 10, 3) := by decide +kernel
theorem dX6_hour_57 : decode cX6_hour 57 = .ok (.getfield 106, 3) := by decide +kernel
theorem dX6_hour_60 : decode cX6_hour 60 = .ok (.iload_n 1, 1) := by decide +kernel
theorem dX6_hour_61 : decode cX6_hour 61 = .ok (.iload_n 2, 1) := by decide +kernel
theorem dX6_hour_62 : decode cX6_hour 62 = .ok (.invokestatic 115, 3) := by decide +kernel
theorem dX6_hour_65 : decode cX6_hour 65 = .ok (.iload_n 3, 1) := by decide +kernel
theorem dX6_hour_66 : decode cX6_hour 66 = .ok (.ireturn, 1) := by decide +kernel
theorem dX6_set_0 : decode cX6_set 0 = .ok (.iload_n 1, 1) := by decide +kernel
theorem dX6_set_1 : decode cX6_set 1 = .ok (.ifCond .lt 8, 3) := by decide +kernel
theorem dX6_set_4 : decode cX6_set 4 = .ok (.iload_n 1, 1) := by decide +kernel
theorem dX6_set_5 : decode cX6_set 5 = .ok (.iconst 3, 1) := by decide +kernel
theorem dX6_set_6 : decode cX6_set 6 = .ok (.if_icmp .lt 10, 3) := by decide +kernel
theorem dX6_set_9 : decode cX6_set 9 = .ok (.aload_n 0, 1) := by decide +kernel
theorem dX6_set_10 : decode cX6_set 10 = .ok (.bipush (-2), 2) := by decide +kernel
theorem dX6_set_12 : decode cX6_set 12 = .ok (.invokevirtual 65, 3) := by decide +kernel
theorem dX6_set_15 : decode cX6_set 15 = .ok (.ireturn, 1) := by decide +kernel
theorem dX6_set_16 : decode cX6_set 16 = .ok (.iload_n 2, 1) := by decide +kernel
theorem dX6_set_17 : decode cX6_set 17 = .ok (.ifCond .ge 10, 3) := by decide +kernel
theorem dX6_set_20 : decode cX6_set 20 = .ok (.aload_n 0, 1) := by decide +kernel
theorem dX6_set_21 : decode cX6_set 21 = .ok (.bipush (-4), 2) := by decide +kernel
theorem dX6_set_23 : decode cX6_set 23 = .ok (.invokevirtual 65, 3) := by decide +kernel
theorem dX6_set_26 : decode cX6_set 26 = .ok (.ireturn, 1) := by decide +kernel
theorem dX6_set_27 : decode cX6_set 27 = .ok (.aload_n 0, 1) := by decide +kernel
theorem dX6_set_28 : decode cX6_set 28 = .ok (.getfield 10, 3) := by decide +kernel
theorem dX6_set_31 : decode cX6_set 31 = .ok (.getfield 119, 3) := by decide +kernel
theorem dX6_set_34 : decode cX6_set 34 = .ok (.iload_n 1, 1) := by decide +kernel
theorem dX6_set_35 : decode cX6_set 35 = .ok (.invokestatic 91, 3) := by decide +kernel
theorem dX6_set_38 : decode cX6_set 38 = .ok (.istore_n 3, 1) := by decide +kernel
theorem dX6_set_39 : decode cX6_set 39 = .ok (.aload_n 0, 1) := by decide +kernel
theorem dX6_set_40 : decode cX6_set 40 = .ok (.getfield 10, 3) := by decide +kernel
theorem dX6_set_43 : decode cX6_set 43 = .ok (.iload_n 1, 1) := by decide +kernel
theorem dX6_set_44 : decode cX6_set 44 = .ok (.iload_n 2, 1) := by decide +kernel
theorem dX6_set_45 : decode cX6_set 45 = .ok (.invokevirtual 122, 3) := by decide +kernel
theorem dX6_set_48 : decode cX6_set 48 = .ok (.ifCond .ne 10, 3) := by decide +kernel
theorem dX6_set_51 : decode cX6_set 51 = .ok (.aload_n 0, 1) := by decide +kernel
theorem dX6_set_52 : decode cX6_set 52 = .ok (.bipush (-6), 2) := by decide +kernel
theorem dX6_set_54 : decode cX6_set 54 = .ok (.invokevirtual 65, 3) := by decide +kernel
theorem dX6_set_57 : decode cX6_set 57 = .ok (.ireturn, 1) := by decide +kernel
theorem dX6_set_58 : decode cX6_set 58 = .ok (.iload_n 3, 1) := by decide +kernel
theorem dX6_set_59 : decode cX6_set 59 = .ok (.ireturn, 1) := by decide +kernel
theorem dX6_sums_0 : decode cX6_sums 0 = .ok (.aload_n 0, 1) := by decide +kernel
theorem dX6_sums_1 : decode cX6_sums 1 = .ok (.getfield 32, 3) := by decide +kernel
theorem dX6_sums_4 : decode cX6_sums 4 = .ok (.aload_n 0, 1) := by decide +kernel
theorem dX6_sums_5 : decode cX6_sums 5 = .ok (.getfield 10, 3) := by decide +kernel
theorem dX6_sums_8 : decode cX6_sums 8 = .ok (.invokevirtual 126, 3) := by decide +kernel
theorem dX6_sums_11 : decode cX6_sums 11 = .ok (.pop, 1) := by decide +kernel
theorem dX6_sums_12 : decode cX6_sums 12 = .ok (.iload_n 1, 1) := by decide +kernel
theorem dX6_sums_13 : decode cX6_sums 13 = .ok (.tableswitch 99 0 6 #[43, 51, 59, 67, 75, 83, 91], 43) := by decide +kernel
theorem dX6_sums_56 : decode cX6_sums 56 = .ok (.aload_n 0, 1) := by decide +kernel
theorem dX6_sums_57 : decode cX6_sums 57 = .ok (.getfield 32, 3) := by decide +kernel
theorem dX6_sums_60 : decode cX6_sums 60 = .ok (.getfield 129, 3) := by decide +kernel
theorem dX6_sums_63 : decode cX6_sums 63 = .ok (.ireturn, 1) := by decide +kernel
theorem dX6_sums_64 : decode cX6_sums 64 = .ok (.aload_n 0, 1) := by decide +kernel
theorem dX6_sums_65 : decode cX6_sums 65 = .ok (.getfield 32, 3) := by decide +kernel
theorem dX6_sums_68 : decode cX6_sums 68 = .ok (.getfield 132, 3) := by decide +kernel
theorem dX6_sums_71 : decode cX6_sums 71 = .ok (.ireturn, 1) := by decide +kernel
theorem dX6_sums_72 : decode cX6_sums 72 = .ok (.aload_n 0, 1) := by decide +kernel
theorem dX6_sums_73 : decode cX6_sums 73 = .ok (.getfield 32, 3) := by decide +kernel
theorem dX6_sums_76 : decode cX6_sums 76 = .ok (.getfield 135, 3) := by decide +kernel
theorem dX6_sums_79 : decode cX6_sums 79 = .ok (.ireturn, 1) := by decide +kernel
theorem dX6_sums_80 : decode cX6_sums 80 = .ok (.aload_n 0, 1) := by decide +kernel
theorem dX6_sums_81 : decode cX6_sums 81 = .ok (.getfield 32, 3) := by decide +kernel
theorem dX6_sums_84 : decode cX6_sums 84 = .ok (.invokevirtual 138, 3) := by decide +kernel
theorem dX6_sums_87 : decode cX6_sums 87 = .ok (.ireturn, 1) := by decide +kernel
theorem dX6_sums_88 : decode cX6_sums 88 = .ok (.aload_n 0, 1) := by decide +kernel
theorem dX6_sums_89 : decode cX6_sums 89 = .ok (.getfield 32, 3) := by decide +kernel
theorem dX6_sums_92 : decode cX6_sums 92 = .ok (.invokevirtual 142, 3) := by decide +kernel
theorem dX6_sums_95 : decode cX6_sums 95 = .ok (.ireturn, 1) := by decide +kernel
theorem dX6_sums_96 : decode cX6_sums 96 = .ok (.aload_n 0, 1) := by decide +kernel
theorem dX6_sums_97 : decode cX6_sums 97 = .ok (.getfield 32, 3) := by decide +kernel
theorem dX6_sums_100 : decode cX6_sums 100 = .ok (.getfield 145, 3) := by decide +kernel
theorem dX6_sums_103 : decode cX6_sums 103 = .ok (.ireturn, 1) := by decide +kernel
theorem dX6_sums_104 : decode cX6_sums 104 = .ok (.aload_n 0, 1) := by decide +kernel
theorem dX6_sums_105 : decode cX6_sums 105 = .ok (.getfield 32, 3) := by decide +kernel
theorem dX6_sums_108 : decode cX6_sums 108 = .ok (.getfield 148, 3) := by decide +kernel
theorem dX6_sums_111 : decode cX6_sums 111 = .ok (.ireturn, 1) := by decide +kernel
theorem dX6_sums_112 : decode cX6_sums 112 = .ok (.aload_n 0, 1) := by decide +kernel
theorem dX6_sums_113 : decode cX6_sums 113 = .ok (.bipush (-2), 2) := by decide +kernel
theorem dX6_sums_115 : decode cX6_sums 115 = .ok (.invokevirtual 65, 3) := by decide +kernel
theorem dX6_sums_118 : decode cX6_sums 118 = .ok (.ireturn, 1) := by decide +kernel
theorem dX6_of_0 : decode cX6_of 0 = .ok (.aload_n 0, 1) := by decide +kernel
theorem dX6_of_1 : decode cX6_of 1 = .ok (.getfield 10, 3) := by decide +kernel
theorem dX6_of_4 : decode cX6_of 4 = .ok (.iload_n 1, 1) := by decide +kernel
theorem dX6_of_5 : decode cX6_of 5 = .ok (.invokevirtual 84, 3) := by decide +kernel
theorem dX6_of_8 : decode cX6_of 8 = .ok (.ifCond .ne 9, 3) := by decide +kernel
theorem dX6_of_11 : decode cX6_of 11 = .ok (.aload_n 0, 1) := by decide +kernel
theorem dX6_of_12 : decode cX6_of 12 = .ok (.iconst (-1), 1) := by decide +kernel
theorem dX6_of_13 : decode cX6_of 13 = .ok (.invokevirtual 65, 3) := by decide +kernel
theorem dX6_of_16 : decode cX6_of 16 = .ok (.ireturn, 1) := by decide +kernel
theorem dX6_of_17 : decode cX6_of 17 = .ok (.aload_n 0, 1) := by decide +kernel
theorem dX6_of_18 : decode cX6_of 18 = .ok (.getfield 32, 3) := by decide +kernel
theorem dX6_of_21 : decode cX6_of 21 = .ok (.aload_n 0, 1) := by decide +kernel
theorem dX6_of_22 : decode cX6_of 22 = .ok (.getfield 10, 3) := by decide +kernel
theorem dX6_of_25 : decode cX6_of 25 = .ok (.invokevirtual 126, 3) := by decide +kernel
theorem dX6_of_28 : decode cX6_of 28 = .ok (.pop, 1) := by decide +kernel
theorem dX6_of_29 : decode cX6_of 29 = .ok (.iload_n 2, 1) := by decide +kernel
theorem dX6_of_30 : decode cX6_of 30 = .ok (.tableswitch 94 0 4 #[34, 46, 58, 70, 82], 34) := by decide +kernel
theorem dX6_of_64 : decode cX6_of 64 = .ok (.aload_n 0, 1) := by decide +kernel
theorem dX6_of_65 : decode cX6_of 65 = .ok (.getfield 32, 3) := by decide +kernel
theorem dX6_of_68 : decode cX6_of 68 = .ok (.getfield 151, 3) := by decide +kernel
theorem dX6_of_71 : decode cX6_of 71 = .ok (.iload_n 1, 1) := by decide +kernel
theorem dX6_of_72 : decode cX6_of 72 = .ok (.invokestatic 91, 3) := by decide +kernel
theorem dX6_of_75 : decode cX6_of 75 = .ok (.ireturn, 1) := by decide +kernel
theorem dX6_of_76 : decode cX6_of 76 = .ok (.aload_n 0, 1) := by decide +kernel
theorem dX6_of_77 : decode cX6_of 77 = .ok (.getfield 32, 3) := by decide +kernel
theorem dX6_of_80 : decode cX6_of 80 = .ok (.getfield 154, 3) := by decide +kernel
theorem dX6_of_83 : decode cX6_of 83 = .ok (.iload_n 1, 1) := by decide +kernel
theorem dX6_of_84 : decode cX6_of 84 = .ok (.invokestatic 91, 3) := by decide +kernel
theorem dX6_of_87 : decode cX6_of 87 = .ok (.ireturn, 1) := by decide +kernel
theorem dX6_of_88 : decode cX6_of 88 = .ok (.aload_n 0, 1) := by decide +kernel
theorem dX6_of_89 : decode cX6_of 89 = .ok (.getfield 32, 3) := by decide +kernel
theorem dX6_of_92 : decode cX6_of 92 = .ok (.getfield 157, 3) := by decide +kernel
theorem dX6_of_95 : decode cX6_of 95 = .ok (.iload_n 1, 1) := by decide +kernel
theorem dX6_of_96 : decode cX6_of 96 = .ok (.invokestatic 91, 3) := by decide +kernel
theorem dX6_of_99 : decode cX6_of 99 = .ok (.ireturn, 1) := by decide +kernel
theorem dX6_of_100 : decode cX6_of 100 = .ok (.aload_n 0, 1) := by decide +kernel
theorem dX6_of_101 : decode cX6_of 101 = .ok (.getfield 32, 3) := by decide +kernel
theorem dX6_of_104 : decode cX6_of 104 = .ok (.getfield 160, 3) := by decide +kernel
theorem dX6_of_107 : decode cX6_of 107 = .ok (.iload_n 1, 1) := by decide +kernel
theorem dX6_of_108 : decode cX6_of 108 = .ok (.invokestatic 91, 3) := by decide +kernel
theorem dX6_of_111 : decode cX6_of 111 = .ok (.ireturn, 1) := by decide +kernel
theorem dX6_of_112 : decode cX6_of 112 = .ok (.aload_n 0, 1) := by decide +kernel
theorem dX6_of_113 : decode cX6_of 113 = .ok (.getfield 32, 3) := by decide +kernel
theorem dX6_of_116 : decode cX6_of 116 = .ok (.getfield 163, 3) := by decide +kernel
theorem dX6_of_119 : decode cX6_of 119 = .ok (.iload_n 1, 1) := by decide +kernel
theorem dX6_of_120 : decode cX6_of 120 = .ok (.invokestatic 91, 3) := by decide +kernel
theorem dX6_of_123 : decode cX6_of 123 = .ok (.ireturn, 1) := by decide +kernel
theorem dX6_of_124 : decode cX6_of 124 = .ok (.aload_n 0, 1) := by decide +kernel
theorem dX6_of_125 : decode cX6_of 125 = .ok (.bipush (-2), 2) := by decide +kernel
theorem dX6_of_127 : decode cX6_of 127 = .ok (.invokevirtual 65, 3) := by decide +kernel
theorem dX6_of_130 : decode cX6_of 130 = .ok (.ireturn, 1) := by decide +kernel
theorem dX6_lamp_0 : decode cX6_lamp 0 = .ok (.iload_n 1, 1) := by decide +kernel
theorem dX6_lamp_1 : decode cX6_lamp 1 = .ok (.invokestatic 166, 3) := by decide +kernel
theorem dX6_lamp_4 : decode cX6_lamp 4 = .ok (.istore_n 2, 1) := by decide +kernel
theorem dX6_lamp_5 : decode cX6_lamp 5 = .ok (.iload_n 2, 1) := by decide +kernel
theorem dX6_lamp_6 : decode cX6_lamp 6 = .ok (.ifCond .eq 9, 3) := by decide +kernel
theorem dX6_lamp_9 : decode cX6_lamp 9 = .ok (.aload_n 0, 1) := by decide +kernel
theorem dX6_lamp_10 : decode cX6_lamp 10 = .ok (.iload_n 2, 1) := by decide +kernel
theorem dX6_lamp_11 : decode cX6_lamp 11 = .ok (.invokevirtual 65, 3) := by decide +kernel
theorem dX6_lamp_14 : decode cX6_lamp 14 = .ok (.ireturn, 1) := by decide +kernel
theorem dX6_lamp_15 : decode cX6_lamp 15 = .ok (.aload_n 0, 1) := by decide +kernel
theorem dX6_lamp_16 : decode cX6_lamp 16 = .ok (.getfield 32, 3) := by decide +kernel
theorem dX6_lamp_19 : decode cX6_lamp 19 = .ok (.aload_n 0, 1) := by decide +kernel
theorem dX6_lamp_20 : decode cX6_lamp 20 = .ok (.getfield 10, 3) := by decide +kernel
theorem dX6_lamp_23 : decode cX6_lamp 23 = .ok (.invokevirtual 126, 3) := by decide +kernel
theorem dX6_lamp_26 : decode cX6_lamp 26 = .ok (.pop, 1) := by decide +kernel
theorem dX6_lamp_27 : decode cX6_lamp 27 = .ok (.aload_n 0, 1) := by decide +kernel
theorem dX6_lamp_28 : decode cX6_lamp 28 = .ok (.getfield 32, 3) := by decide +kernel
theorem dX6_lamp_31 : decode cX6_lamp 31 = .ok (.getfield 169, 3) := by decide +kernel
theorem dX6_lamp_34 : decode cX6_lamp 34 = .ok (.iload_n 1, 1) := by decide +kernel
theorem dX6_lamp_35 : decode cX6_lamp 35 = .ok (.invokestatic 91, 3) := by decide +kernel
theorem dX6_lamp_38 : decode cX6_lamp 38 = .ok (.ireturn, 1) := by decide +kernel
theorem dX6_best_0 : decode cX6_best 0 = .ok (.iload_n 1, 1) := by decide +kernel
theorem dX6_best_1 : decode cX6_best 1 = .ok (.ifCond .eq 15, 3) := by decide +kernel
theorem dX6_best_4 : decode cX6_best 4 = .ok (.iload_n 1, 1) := by decide +kernel
theorem dX6_best_5 : decode cX6_best 5 = .ok (.iconst 1, 1) := by decide +kernel
theorem dX6_best_6 : decode cX6_best 6 = .ok (.if_icmp .eq 10, 3) := by decide +kernel
theorem dX6_best_9 : decode cX6_best 9 = .ok (.aload_n 0, 1) := by decide +kernel
theorem dX6_best_10 : decode cX6_best 10 = .ok (.bipush (-2), 2) := by decide +kernel
theorem dX6_best_12 : decode cX6_best 12 = .ok (.invokevirtual 65, 3) := by decide +kernel
theorem dX6_best_15 : decode cX6_best 15 = .ok (.ireturn, 1) := by decide +kernel
theorem dX6_best_16 : decode cX6_best 16 = .ok (.aload_n 0, 1) := by decide +kernel
theorem dX6_best_17 : decode cX6_best 17 = .ok (.getfield 10, 3) := by decide +kernel
theorem dX6_best_20 : decode cX6_best 20 = .ok (.getfield 172, 3) := by decide +kernel
theorem dX6_best_23 : decode cX6_best 23 = .ok (.bipush 6, 2) := by decide +kernel
theorem dX6_best_25 : decode cX6_best 25 = .ok (.if_icmp .le 10, 3) := by decide +kernel
theorem dX6_best_28 : decode cX6_best 28 = .ok (.aload_n 0, 1) := by decide +kernel
theorem dX6_best_29 : decode cX6_best 29 = .ok (.bipush (-3), 2) := by decide +kernel
theorem dX6_best_31 : decode cX6_best 31 = .ok (.invokevirtual 65, 3) := by decide +kernel
theorem dX6_best_34 : decode cX6_best 34 = .ok (.ireturn, 1) := by decide +kernel
theorem dX6_best_35 : decode cX6_best 35 = .ok (.iload_n 2, 1) := by decide +kernel
theorem dX6_best_36 : decode cX6_best 36 = .ok (.iconst (-1), 1) := by decide +kernel
theorem dX6_best_37 : decode cX6_best 37 = .ok (.if_icmp .ge 10, 3) := by decide +kernel
theorem dX6_best_40 : decode cX6_best 40 = .ok (.aload_n 0, 1) := by decide +kernel
theorem dX6_best_41 : decode cX6_best 41 = .ok (.bipush (-4), 2) := by decide +kernel
theorem dX6_best_43 : decode cX6_best 43 = .ok (.invokevirtual 65, 3) := by decide +kernel
theorem dX6_best_46 : decode cX6_best 46 = .ok (.ireturn, 1) := by decide +kernel
theorem dX6_best_47 : decode cX6_best 47 = .ok (.iload_n 2, 1) := by decide +kernel
theorem dX6_best_48 : decode cX6_best 48 = .ok (.aload_n 0, 1) := by decide +kernel
theorem dX6_best_49 : decode cX6_best 49 = .ok (.getfield 10, 3) := by decide +kernel
theorem dX6_best_52 : decode cX6_best 52 = .ok (.getfield 172, 3) := by decide +kernel
theorem dX6_best_55 : decode cX6_best 55 = .ok (.if_icmp .lt 9, 3) := by decide +kernel
theorem dX6_best_58 : decode cX6_best 58 = .ok (.aload_n 0, 1) := by decide +kernel
theorem dX6_best_59 : decode cX6_best 59 = .ok (.iconst (-1), 1) := by decide +kernel
theorem dX6_best_60 : decode cX6_best 60 = .ok (.invokevirtual 65, 3) := by decide +kernel
theorem dX6_best_63 : decode cX6_best 63 = .ok (.ireturn, 1) := by decide +kernel
theorem dX6_best_64 : decode cX6_best 64 = .ok (.aload_n 0, 1) := by decide +kernel
theorem dX6_best_65 : decode cX6_best 65 = .ok (.getfield 39, 3) := by decide +kernel
theorem dX6_best_68 : decode cX6_best 68 = .ok (.aload_n 0, 1) := by decide +kernel
theorem dX6_best_69 : decode cX6_best 69 = .ok (.getfield 10, 3) := by decide +kernel
theorem dX6_best_72 : decode cX6_best 72 = .ok (.aload_n 0, 1) := by decide +kernel
theorem dX6_best_73 : decode cX6_best 73 = .ok (.getfield 32, 3) := by decide +kernel
theorem dX6_best_76 : decode cX6_best 76 = .ok (.iload_n 1, 1) := by decide +kernel
theorem dX6_best_77 : decode cX6_best 77 = .ok (.iconst 1, 1) := by decide +kernel
theorem dX6_best_78 : decode cX6_best 78 = .ok (.if_icmp .ne 7, 3) := by decide +kernel
theorem dX6_best_81 : decode cX6_best 81 = .ok (.iconst 1, 1) := by decide +kernel
theorem dX6_best_82 : decode cX6_best 82 = .ok (.goto 4, 3) := by decide +kernel
theorem dX6_best_85 : decode cX6_best 85 = .ok (.iconst 0, 1) := by decide +kernel
theorem dX6_best_86 : decode cX6_best 86 = .ok (.invokevirtual 173, 3) := by decide +kernel
theorem dX6_best_89 : decode cX6_best 89 = .ok (.aload_n 0, 1) := by decide +kernel
theorem dX6_best_90 : decode cX6_best 90 = .ok (.getfield 39, 3) := by decide +kernel
theorem dX6_best_93 : decode cX6_best 93 = .ok (.getfield 177, 3) := by decide +kernel
theorem dX6_best_96 : decode cX6_best 96 = .ok (.ifCond .ne 6, 3) := by decide +kernel
theorem dX6_best_99 : decode cX6_best 99 = .ok (.bipush (-9), 2) := by decide +kernel
theorem dX6_best_101 : decode cX6_best 101 = .ok (.ireturn, 1) := by decide +kernel
theorem dX6_best_102 : decode cX6_best 102 = .ok (.iload_n 2, 1) := by decide +kernel
theorem dX6_best_103 : decode cX6_best 103 = .ok (.ifCond .ge 13, 3) := by decide +kernel
theorem dX6_best_106 : decode cX6_best 106 = .ok (.aload_n 0, 1) := by decide +kernel
theorem dX6_best_107 : decode cX6_best 107 = .ok (.getfield 39, 3) := by decide +kernel
theorem dX6_best_110 : decode cX6_best 110 = .ok (.getfield 180, 3) := by decide +kernel
theorem dX6_best_113 : decode cX6_best 113 = .ok (.goto 14, 3) := by decide +kernel
theorem dX6_best_116 : decode cX6_best 116 = .ok (.aload_n 0, 1) := by decide +kernel
theorem dX6_best_117 : decode cX6_best 117 = .ok (.getfield 39, 3) := by decide +kernel
theorem dX6_best_120 : decode cX6_best 120 = .ok (.getfield 183, 3) := by decide +kernel
theorem dX6_best_123 : decode cX6_best 123 = .ok (.iload_n 2, 1) := by decide +kernel
theorem dX6_best_124 : decode cX6_best 124 = .ok (.invokestatic 91, 3) := by decide +kernel
theorem dX6_best_127 : decode cX6_best 127 = .ok (.ireturn, 1) := by decide +kernel
theorem dX6_bestPump_0 : decode cX6_bestPump 0 = .ok (.aload_n 0, 1) := by decide +kernel
theorem dX6_bestPump_1 : decode cX6_bestPump 1 = .ok (.getfield 19, 3) := by decide +kernel
theorem dX6_bestPump_4 : decode cX6_bestPump 4 = .ok (.aload_n 0, 1) := by decide +kernel
theorem dX6_bestPump_5 : decode cX6_bestPump 5 = .ok (.getfield 10, 3) := by decide +kernel
theorem dX6_bestPump_8 : decode cX6_bestPump 8 = .ok (.invokevirtual 76, 3) := by decide +kernel
theorem dX6_bestPump_11 : decode cX6_bestPump 11 = .ok (.iconst 0, 1) := by decide +kernel
theorem dX6_bestPump_12 : decode cX6_bestPump 12 = .ok (.istore_n 1, 1) := by decide +kernel
theorem dX6_bestPump_13 : decode cX6_bestPump 13 = .ok (.ldc 188, 2) := by decide +kernel
theorem dX6_bestPump_15 : decode cX6_bestPump 15 = .ok (.istore_n 2, 1) := by decide +kernel
theorem dX6_bestPump_16 : decode cX6_bestPump 16 = .ok (.iconst 0, 1) := by decide +kernel
theorem dX6_bestPump_17 : decode cX6_bestPump 17 = .ok (.istore_n 3, 1) := by decide +kernel
theorem dX6_bestPump_18 : decode cX6_bestPump 18 = .ok (.iload_n 3, 1) := by decide +kernel
theorem dX6_bestPump_19 : decode cX6_bestPump 19 = .ok (.bipush 40, 2) := by decide +kernel
theorem dX6_bestPump_21 : decode cX6_bestPump 21 = .ok (.if_icmp .ge 43, 3) := by decide +kernel
theorem dX6_bestPump_24 : decode cX6_bestPump 24 = .ok (.aload_n 0, 1) := by decide +kernel
theorem dX6_bestPump_25 : decode cX6_bestPump 25 = .ok (.getfield 19, 3) := by decide +kernel
theorem dX6_bestPump_28 : decode cX6_bestPump 28 = .ok (.iconst 0, 1) := by decide +kernel
theorem dX6_bestPump_29 : decode cX6_bestPump 29 = .ok (.iload_n 3, 1) := by decide +kernel
theorem dX6_bestPump_30 : decode cX6_bestPump 30 = .ok (.invokevirtual 122, 3) := by decide +kernel
theorem dX6_bestPump_33 : decode cX6_bestPump 33 = .ok (.pop, 1) := by decide +kernel
theorem dX6_bestPump_34 : decode cX6_bestPump 34 = .ok (.aload_n 0, 1) := by decide +kernel
theorem dX6_bestPump_35 : decode cX6_bestPump 35 = .ok (.getfield 32, 3) := by decide +kernel
theorem dX6_bestPump_38 : decode cX6_bestPump 38 = .ok (.aload_n 0, 1) := by decide +kernel
theorem dX6_bestPump_39 : decode cX6_bestPump 39 = .ok (.getfield 19, 3) := by decide +kernel
theorem dX6_bestPump_42 : decode cX6_bestPump 42 = .ok (.invokevirtual 126, 3) := by decide +kernel
theorem dX6_bestPump_45 : decode cX6_bestPump 45 = .ok (.istore 4, 2) := by decide +kernel
theorem dX6_bestPump_47 : decode cX6_bestPump 47 = .ok (.iload 4, 2) := by decide +kernel
theorem dX6_bestPump_49 : decode cX6_bestPump 49 = .ok (.iload_n 2, 1) := by decide +kernel
theorem dX6_bestPump_50 : decode cX6_bestPump 50 = .ok (.if_icmp .ge 8, 3) := by decide +kernel
theorem dX6_bestPump_53 : decode cX6_bestPump 53 = .ok (.iload 4, 2) := by decide +kernel
theorem dX6_bestPump_55 : decode cX6_bestPump 55 = .ok (.istore_n 2, 1) := by decide +kernel
theorem dX6_bestPump_56 : decode cX6_bestPump 56 = .ok (.iload_n 3, 1) := by decide +kernel
theorem dX6_bestPump_57 : decode cX6_bestPump 57 = .ok (.istore_n 1, 1) := by decide +kernel
theorem dX6_bestPump_58 : decode cX6_bestPump 58 = .ok (.iinc 3 1, 3) := by decide +kernel
theorem dX6_bestPump_61 : decode cX6_bestPump 61 = .ok (.goto (-43), 3) := by decide +kernel
theorem dX6_bestPump_64 : decode cX6_bestPump 64 = .ok (.iload_n 1, 1) := by decide +kernel
theorem dX6_bestPump_65 : decode cX6_bestPump 65 = .ok (.ireturn, 1) := by decide +kernel
theorem dX6_bestHour_0 : decode cX6_bestHour 0 = .ok (.aload_n 0, 1) := by decide +kernel
theorem dX6_bestHour_1 : decode cX6_bestHour 1 = .ok (.getfield 10, 3) := by decide +kernel
theorem dX6_bestHour_4 : decode cX6_bestHour 4 = .ok (.iload_n 1, 1) := by decide +kernel
theorem dX6_bestHour_5 : decode cX6_bestHour 5 = .ok (.invokevirtual 84, 3) := by decide +kernel
theorem dX6_bestHour_8 : decode cX6_bestHour 8 = .ok (.ifCond .ne 9, 3) := by decide +kernel
theorem dX6_bestHour_11 : decode cX6_bestHour 11 = .ok (.aload_n 0, 1) := by decide +kernel
theorem dX6_bestHour_12 : decode cX6_bestHour 12 = .ok (.iconst (-1), 1) := by decide +kernel
theorem dX6_bestHour_13 : decode cX6_bestHour 13 = .ok (.invokevirtual 65, 3) := by decide +kernel
theorem dX6_bestHour_16 : decode cX6_bestHour 16 = .ok (.ireturn, 1) := by decide +kernel
theorem dX6_bestHour_17 : decode cX6_bestHour 17 = .ok (.aload_n 0, 1) := by decide +kernel
theorem dX6_bestHour_18 : decode cX6_bestHour 18 = .ok (.getfield 19, 3) := by decide +kernel
theorem dX6_bestHour_21 : decode cX6_bestHour 21 = .ok (.aload_n 0, 1) := by decide +kernel
theorem dX6_bestHour_22 : decode cX6_bestHour 22 = .ok (.getfield 10, 3) := by decide +kernel
