theorem dX0_init_0 : decode cX0_init 0 = .ok (.aload_n 0, 1) := by decide +kernel
theorem dX0_init_1 : decode cX0_init 1 = .ok (.invokespecial 3, 3) := by decide +kernel
theorem dX0_init_4 : decode cX0_init 4 = .ok (.aload_n 0, 1) := by decide +kernel
theorem dX0_init_5 : decode cX0_init 5 = .ok (.iconst 0, 1) := by decide +kernel
theorem dX0_init_6 : decode cX0_init 6 = .ok (.putfield 9, 3) := by decide +kernel
theorem dX0_init_9 : decode cX0_init 9 = .ok (.aload_n 0, 1) := by decide +kernel
theorem dX0_init_10 : decode cX0_init 10 = .ok (.bipush 14, 2) := by decide +kernel
theorem dX0_init_12 : decode cX0_init 12 = .ok (.newarray .int, 2) := by decide +kernel
theorem dX0_init_14 : decode cX0_init 14 = .ok (.putfield 15, 3) := by decide +kernel
theorem dX0_init_17 : decode cX0_init 17 = .ok (.aload_n 0, 1) := by decide +kernel
theorem dX0_init_18 : decode cX0_init 18 = .ok (.bipush 14, 2) := by decide +kernel
theorem dX0_init_20 : decode cX0_init 20 = .ok (.newarray .int, 2) := by decide +kernel
theorem dX0_init_22 : decode cX0_init 22 = .ok (.putfield 19, 3) := by decide +kernel
theorem dX0_init_25 : decode cX0_init 25 = .ok (.aload_n 0, 1) := by decide +kernel
theorem dX0_init_26 : decode cX0_init 26 = .ok (.bipush 14, 2) := by decide +kernel
theorem dX0_init_28 : decode cX0_init 28 = .ok (.newarray .int, 2) := by decide +kernel
theorem dX0_init_30 : decode cX0_init 30 = .ok (.putfield 22, 3) := by decide +kernel
theorem dX0_init_33 : decode cX0_init 33 = .ok (.return_, 1) := by decide +kernel
theorem dX0_add_0 : decode cX0_add 0 = .ok (.aload_n 0, 1) := by decide +kernel
theorem dX0_add_1 : decode cX0_add 1 = .ok (.getfield 9, 3) := by decide +kernel
theorem dX0_add_4 : decode cX0_add 4 = .ok (.bipush 14, 2) := by decide +kernel
theorem dX0_add_6 : decode cX0_add 6 = .ok (.if_icmp .lt 7, 3) := by decide +kernel
theorem dX0_add_9 : decode cX0_add 9 = .ok (.aload_n 0, 1) := by decide +kernel
theorem dX0_add_10 : decode cX0_add 10 = .ok (.invokevirtual 25, 3) := by decide +kernel
theorem dX0_add_13 : decode cX0_add 13 = .ok (.aload_n 0, 1) := by decide +kernel
theorem dX0_add_14 : decode cX0_add 14 = .ok (.getfield 15, 3) := by decide +kernel
theorem dX0_add_17 : decode cX0_add 17 = .ok (.aload_n 0, 1) := by decide +kernel
theorem dX0_add_18 : decode cX0_add 18 = .ok (.getfield 9, 3) := by decide +kernel
theorem dX0_add_21 : decode cX0_add 21 = .ok (.iload_n 1, 1) := by decide +kernel
theorem dX0_add_22 : decode cX0_add 22 = .ok (.iastore, 1) := by decide +kernel
theorem dX0_add_23 : decode cX0_add 23 = .ok (.aload_n 0, 1) := by decide +kernel
theorem dX0_add_24 : decode cX0_add 24 = .ok (.getfield 19, 3) := by decide +kernel
theorem dX0_add_27 : decode cX0_add 27 = .ok (.aload_n 0, 1) := by decide +kernel
theorem dX0_add_28 : decode cX0_add 28 = .ok (.getfield 9, 3) := by decide +kernel
theorem dX0_add_31 : decode cX0_add 31 = .ok (.iload_n 2, 1) := by decide +kernel
theorem dX0_add_32 : decode cX0_add 32 = .ok (.iastore, 1) := by decide +kernel
theorem dX0_add_33 : decode cX0_add 33 = .ok (.aload_n 0, 1) := by decide +kernel
theorem dX0_add_34 : decode cX0_add 34 = .ok (.getfield 22, 3) := by decide +kernel
theorem dX0_add_37 : decode cX0_add 37 = .ok (.aload_n 0, 1) := by decide +kernel
theorem dX0_add_38 : decode cX0_add 38 = .ok (.getfield 9, 3) := by decide +kernel
theorem dX0_add_41 : decode cX0_add 41 = .ok (.iload_n 3, 1) := by decide +kernel
theorem dX0_add_42 : decode cX0_add 42 = .ok (.iastore, 1) := by decide +kernel
theorem dX0_add_43 : decode cX0_add 43 = .ok (.aload_n 0, 1) := by decide +kernel
theorem dX0_add_44 : decode cX0_add 44 = .ok (.dup, 1) := by decide +kernel
theorem dX0_add_45 : decode cX0_add 45 = .ok (.getfield 9, 3) := by decide +kernel
theorem dX0_add_48 : decode cX0_add 48 = .ok (.iconst 1, 1) := by decide +kernel
theorem dX0_add_49 : decode cX0_add 49 = .ok (.iadd, 1) := by decide +kernel
theorem dX0_add_50 : decode cX0_add 50 = .ok (.putfield 9, 3) := by decide +kernel
theorem dX0_add_53 : decode cX0_add 53 = .ok (.return_, 1) := by decide +kernel
theorem dX0_forgetFirst_0 : decode cX0_forgetFirst 0 = .ok (.iconst 1, 1) := by decide +kernel
theorem dX0_forgetFirst_1 : decode cX0_forgetFirst 1 = .ok (.istore_n 1, 1) := by decide +kernel
theorem dX0_forgetFirst_2 : decode cX0_forgetFirst 2 = .ok (.iload_n 1, 1) := by decide +kernel
theorem dX0_forgetFirst_3 : decode cX0_forgetFirst 3 = .ok (.bipush 14, 2) := by decide +kernel
theorem dX0_forgetFirst_5 : decode cX0_forgetFirst 5 = .ok (.if_icmp .ge 51, 3) := by decide +kernel
theorem dX0_forgetFirst_8 : decode cX0_forgetFirst 8 = .ok (.aload_n 0, 1) := by decide +kernel
theorem dX0_forgetFirst_9 : decode cX0_forgetFirst 9 = .ok (.getfield 15, 3) := by decide +kernel
theorem dX0_forgetFirst_12 : decode cX0_forgetFirst 12 = .ok (.iload_n 1, 1) := by decide +kernel
theorem dX0_forgetFirst_13 : decode cX0_forgetFirst 13 = .ok (.iconst 1, 1) := by decide +kernel
theorem dX0_forgetFirst_14 : decode cX0_forgetFirst 14 = .ok (.isub, 1) := by decide +kernel
theorem dX0_forgetFirst_15 : decode cX0_forgetFirst 15 = .ok (.aload_n 0, 1) := by decide +kernel
theorem dX0_forgetFirst_16 : decode cX0_forgetFirst 16 = .ok (.getfield 15, 3) := by decide +kernel
theorem dX0_forgetFirst_19 : decode cX0_forgetFirst 19 = .ok (.iload_n 1, 1) := by decide +kernel
theorem dX0_forgetFirst_20 : decode cX0_forgetFirst 20 = .ok (.iaload, 1) := by decide +kernel
theorem dX0_forgetFirst_21 : decode cX0_forgetFirst 21 = .ok (.iastore, 1) := by decide +kernel
theorem dX0_forgetFirst_22 : decode cX0_forgetFirst 22 = .ok (.aload_n 0, 1) := by decide +kernel
theorem dX0_forgetFirst_23 : decode cX0_forgetFirst 23 = .ok (.getfield 19, 3) := by decide +kernel
theorem dX0_forgetFirst_26 : decode cX0_forgetFirst 26 = .ok (.iload_n 1, 1) := by decide +kernel
theorem dX0_forgetFirst_27 : decode cX0_forgetFirst 27 = .ok (.iconst 1, 1) := by decide +kernel
theorem dX0_forgetFirst_28 : decode cX0_forgetFirst 28 = .ok (.isub, 1) := by decide +kernel
theorem dX0_forgetFirst_29 : decode cX0_forgetFirst 29 = .ok (.aload_n 0, 1) := by decide +kernel
theorem dX0_forgetFirst_30 : decode cX0_forgetFirst 30 = .ok (.getfield 19, 3) := by decide +kernel
theorem dX0_forgetFirst_33 : decode cX0_forgetFirst 33 = .ok (.iload_n 1, 1) := by decide +kernel
theorem dX0_forgetFirst_34 : decode cX0_forgetFirst 34 = .ok (.iaload, 1) := by decide +kernel
theorem dX0_forgetFirst_35 : decode cX0_forgetFirst 35 = .ok (.iastore, 1) := by decide +kernel
theorem dX0_forgetFirst_36 : decode cX0_forgetFirst 36 = .ok (.aload_n 0, 1) := by decide +kernel
theorem dX0_forgetFirst_37 : decode cX0_forgetFirst 37 = .ok (.getfield 22, 3) := by decide +kernel
theorem dX0_forgetFirst_40 : decode cX0_forgetFirst 40 = .ok (.iload_n 1, 1) := by decide +kernel
theorem dX0_forgetFirst_41 : decode cX0_forgetFirst 41 = .ok (.iconst 1, 1) := by decide +kernel
theorem dX0_forgetFirst_42 : decode cX0_forgetFirst 42 = .ok (.isub, 1) := by decide +kernel
theorem dX0_forgetFirst_43 : decode cX0_forgetFirst 43 = .ok (.aload_n 0, 1) := by decide +kernel
theorem dX0_forgetFirst_44 : decode cX0_forgetFirst 44 = .ok (.getfield 22, 3) := by decide +kernel
theorem dX0_forgetFirst_47 : decode cX0_forgetFirst 47 = .ok (.iload_n 1, 1) := by decide +kernel
theorem dX0_forgetFirst_48 : decode cX0_forgetFirst 48 = .ok (.iaload, 1) := by decide +kernel
theorem dX0_forgetFirst_49 : decode cX0_forgetFirst 49 = .ok (.iastore, 1) := by decide +kernel
theorem dX0_forgetFirst_50 : decode cX0_forgetFirst 50 = .ok (.iinc 1 1, 3) := by decide +kernel
theorem dX0_forgetFirst_53 : decode cX0_forgetFirst 53 = .ok (.goto (-51), 3) := by decide +kernel
theorem dX0_forgetFirst_56 : decode cX0_forgetFirst 56 = .ok (.aload_n 0, 1) := by decide +kernel
theorem dX0_forgetFirst_57 : decode cX0_forgetFirst 57 = .ok (.bipush 13, 2) := by decide +kernel
theorem dX0_forgetFirst_59 : decode cX0_forgetFirst 59 = .ok (.putfield 9, 3) := by decide +kernel
theorem dX0_forgetFirst_62 : decode cX0_forgetFirst 62 = .ok (.return_, 1) := by decide +kernel
theorem dX1_init_0 : decode cX1_init 0 = .ok (.aload_n 0, 1) := by decide +kernel
theorem dX1_init_1 : decode cX1_init 1 = .ok (.invokespecial 3, 3) := by decide +kernel
theorem dX1_init_4 : decode cX1_init 4 = .ok (.aload_n 0, 1) := by decide +kernel
theorem dX1_init_5 : decode cX1_init 5 = .ok (.iconst 0, 1) := by decide +kernel
theorem dX1_init_6 : decode cX1_init 6 = .ok (.putfield 9, 3) := by decide +kernel
theorem dX1_init_9 : decode cX1_init 9 = .ok (.aload_n 0, 1) := by decide +kernel
theorem dX1_init_10 : decode cX1_init 10 = .ok (.iconst 0, 1) := by decide +kernel
theorem dX1_init_11 : decode cX1_init 11 = .ok (.putfield 15, 3) := by decide +kernel
theorem dX1_init_14 : decode cX1_init 14 = .ok (.aload_n 0, 1) := by decide +kernel
theorem dX1_init_15 : decode cX1_init 15 = .ok (.bipush (-9), 2) := by decide +kernel
theorem dX1_init_17 : decode cX1_init 17 = .ok (.putfield 18, 3) := by decide +kernel
theorem dX1_init_20 : decode cX1_init 20 = .ok (.return_, 1) := by decide +kernel
theorem dX2_init_0 : decode cX2_init 0 = .ok (.aload_n 0, 1) := by decide +kernel
theorem dX2_init_1 : decode cX2_init 1 = .ok (.invokespecial 3, 3) := by decide +kernel
theorem dX2_init_4 : decode cX2_init 4 = .ok (.aload_n 0, 1) := by decide +kernel
theorem dX2_init_5 : decode cX2_init 5 = .ok (.bipush (-9), 2) := by decide +kernel
theorem dX2_init_7 : decode cX2_init 7 = .ok (.putfield 9, 3) := by decide +kernel
theorem dX2_init_10 : decode cX2_init 10 = .ok (.aload_n 0, 1) := by decide +kernel
theorem dX2_init_11 : decode cX2_init 11 = .ok (.iconst 4, 1) := by decide +kernel
theorem dX2_init_12 : decode cX2_init 12 = .ok (.newarray .int, 2) := by decide +kernel
theorem dX2_init_14 : decode cX2_init 14 = .ok (.putfield 15, 3) := by decide +kernel
theorem dX2_init_17 : decode cX2_init 17 = .ok (.aload_n 0, 1) := by decide +kernel
theorem dX2_init_18 : decode cX2_init 18 = .ok (.iconst 4, 1) := by decide +kernel
theorem dX2_init_19 : decode cX2_init 19 = .ok (.newarray .int, 2) := by decide +kernel
theorem dX2_init_21 : decode cX2_init 21 = .ok (.putfield 19, 3) := by decide +kernel
theorem dX2_init_24 : decode cX2_init 24 = .ok (.aload_n 0, 1) := by decide +kernel
theorem dX2_init_25 : decode cX2_init 25 = .ok (.iconst 4, 1) := by decide +kernel
theorem dX2_init_26 : decode cX2_init 26 = .ok (.newarray .int, 2) := by decide +kernel
theorem dX2_init_28 : decode cX2_init 28 = .ok (.putfield 22, 3) := by decide +kernel
theorem dX2_init_31 : decode cX2_init 31 = .ok (.return_, 1) := by decide +kernel
theorem dX2_stockUp_0 : decode cX2_stockUp 0 = .ok (.iconst 0, 1) := by decide +kernel
theorem dX2_stockUp_1 : decode cX2_stockUp 1 = .ok (.istore_n 3, 1) := by decide +kernel
theorem dX2_stockUp_2 : decode cX2_stockUp 2 = .ok (.iload_n 3, 1) := by decide +kernel
theorem dX2_stockUp_3 : decode cX2_stockUp 3 = .ok (.iconst 4, 1) := by decide +kernel
theorem dX2_stockUp_4 : decode cX2_stockUp 4 = .ok (.if_icmp .ge 42, 3) := by decide +kernel
theorem dX2_stockUp_7 : decode cX2_stockUp 7 = .ok (.aload_n 0, 1) := by decide +kernel
theorem dX2_stockUp_8 : decode cX2_stockUp 8 = .ok (.getfield 22, 3) := by decide +kernel
theorem dX2_stockUp_11 : decode cX2_stockUp 11 = .ok (.iload_n 3, 1) := by decide +kernel
theorem dX2_stockUp_12 : decode cX2_stockUp 12 = .ok (.iload_n 3, 1) := by decide +kernel
theorem dX2_stockUp_13 : decode cX2_stockUp 13 = .ok (.aload_n 1, 1) := by decide +kernel
theorem dX2_stockUp_14 : decode cX2_stockUp 14 = .ok (.getfield 25, 3) := by decide +kernel
theorem dX2_stockUp_17 : decode cX2_stockUp 17 = .ok (.if_icmp .ge 21, 3) := by decide +kernel
theorem dX2_stockUp_20 : decode cX2_stockUp 20 = .ok (.iload_n 2, 1) := by decide +kernel
theorem dX2_stockUp_21 : decode cX2_stockUp 21 = .ok (.iload_n 3, 1) := by decide +kernel
theorem dX2_stockUp_22 : decode cX2_stockUp 22 = .ok (.ishr, 1) := by decide +kernel
theorem dX2_stockUp_23 : decode cX2_stockUp 23 = .ok (.iconst 1, 1) := by decide +kernel
theorem dX2_stockUp_24 : decode cX2_stockUp 24 = .ok (.iand, 1) := by decide +kernel
theorem dX2_stockUp_25 : decode cX2_stockUp 25 = .ok (.iconst 1, 1) := by decide +kernel
theorem dX2_stockUp_26 : decode cX2_stockUp 26 = .ok (.if_icmp .ne 12, 3) := by decide +kernel
theorem dX2_stockUp_29 : decode cX2_stockUp 29 = .ok (.aload_n 1, 1) := by decide +kernel
theorem dX2_stockUp_30 : decode cX2_stockUp 30 = .ok (.getfield 30, 3) := by decide +kernel
theorem dX2_stockUp_33 : decode cX2_stockUp 33 = .ok (.iload_n 3, 1) := by decide +kernel
theorem dX2_stockUp_34 : decode cX2_stockUp 34 = .ok (.iaload, 1) := by decide +kernel
theorem dX2_stockUp_35 : decode cX2_stockUp 35 = .ok (.goto 4, 3) := by decide +kernel
theorem dX2_stockUp_38 : decode cX2_stockUp 38 = .ok (.iconst 0, 1) := by decide +kernel
theorem dX2_stockUp_39 : decode cX2_stockUp 39 = .ok (.iastore, 1) := by decide +kernel
theorem dX2_stockUp_40 : decode cX2_stockUp 40 = .ok (.iinc 3 1, 3) := by decide +kernel
theorem dX2_stockUp_43 : decode cX2_stockUp 43 = .ok (.goto (-41), 3) := by decide +kernel
theorem dX2_stockUp_46 : decode cX2_stockUp 46 = .ok (.return_, 1) := by decide +kernel
theorem dX2_canServe_0 : decode cX2_canServe 0 = .ok (.aload_n 1, 1) := by decide +kernel
theorem dX2_canServe_1 : decode cX2_canServe 1 = .ok (.iload_n 2, 1) := by decide +kernel
theorem dX2_canServe_2 : decode cX2_canServe 2 = .ok (.iload_n 3, 1) := by decide +kernel
theorem dX2_canServe_3 : decode cX2_canServe 3 = .ok (.invokevirtual 33, 3) := by decide +kernel
theorem dX2_canServe_6 : decode cX2_canServe 6 = .ok (.ifCond .eq 22, 3) := by decide +kernel
theorem dX2_canServe_9 : decode cX2_canServe 9 = .ok (.aload_n 0, 1) := by decide +kernel
theorem dX2_canServe_10 : decode cX2_canServe 10 = .ok (.getfield 22, 3) := by decide +kernel
theorem dX2_canServe_13 : decode cX2_canServe 13 = .ok (.iload_n 2, 1) := by decide +kernel
theorem dX2_canServe_14 : decode cX2_canServe 14 = .ok (.iaload, 1) := by decide +kernel
theorem dX2_canServe_15 : decode cX2_canServe 15 = .ok (.aload_n 1, 1) := by decide +kernel
theorem dX2_canServe_16 : decode cX2_canServe 16 = .ok (.getfield 37, 3) := by decide +kernel
theorem dX2_canServe_19 : decode cX2_canServe 19 = .ok (.iload_n 3, 1) := by decide +kernel
theorem dX2_canServe_20 : decode cX2_canServe 20 = .ok (.iaload, 1) := by decide +kernel
theorem dX2_canServe_21 : decode cX2_canServe 21 = .ok (.if_icmp .lt 7, 3) := by decide +kernel
theorem dX2_canServe_24 : decode cX2_canServe 24 = .ok (.iconst 1, 1) := by decide +kernel
theorem dX2_canServe_25 : decode cX2_canServe 25 = .ok (.goto 4, 3) := by decide +kernel
theorem dX2_canServe_28 : decode cX2_canServe 28 = .ok (.iconst 0, 1) := by decide +kernel
theorem dX2_canServe_29 : decode cX2_canServe 29 = .ok (.ireturn, 1) := by decide +kernel
theorem dX2_takeTried_0 : decode cX2_takeTried 0 = .ok (.aload_n 0, 1) := by decide +kernel
theorem dX2_takeTried_1 : decode cX2_takeTried 1 = .ok (.iload_n 2, 1) := by decide +kernel
theorem dX2_takeTried_2 : decode cX2_takeTried 2 = .ok (.putfield 9, 3) := by decide +kernel
theorem dX2_takeTried_5 : decode cX2_takeTried 5 = .ok (.iconst 0, 1) := by decide +kernel
theorem dX2_takeTried_6 : decode cX2_takeTried 6 = .ok (.istore_n 3, 1) := by decide +kernel
theorem dX2_takeTried_7 : decode cX2_takeTried 7 = .ok (.iload_n 3, 1) := by decide +kernel
theorem dX2_takeTried_8 : decode cX2_takeTried 8 = .ok (.iload_n 1, 1) := by decide +kernel
theorem dX2_takeTried_9 : decode cX2_takeTried 9 = .ok (.if_icmp .ge 21, 3) := by decide +kernel
theorem dX2_takeTried_12 : decode cX2_takeTried 12 = .ok (.aload_n 0, 1) := by decide +kernel
theorem dX2_takeTried_13 : decode cX2_takeTried 13 = .ok (.getfield 15, 3) := by decide +kernel
theorem dX2_takeTried_16 : decode cX2_takeTried 16 = .ok (.iload_n 3, 1) := by decide +kernel
theorem dX2_takeTried_17 : decode cX2_takeTried 17 = .ok (.aload_n 0, 1) := by decide +kernel
theorem dX2_takeTried_18 : decode cX2_takeTried 18 = .ok (.getfield 19, 3) := by decide +kernel
theorem dX2_takeTried_21 : decode cX2_takeTried 21 = .ok (.iload_n 3, 1) := by decide +kernel
theorem dX2_takeTried_22 : decode cX2_takeTried 22 = .ok (.iaload, 1) := by decide +kernel
theorem dX2_takeTried_23 : decode cX2_takeTried 23 = .ok (.iastore, 1) := by decide +kernel
theorem dX2_takeTried_24 : decode cX2_takeTried 24 = .ok (.iinc 3 1, 3) := by decide +kernel
theorem dX2_takeTried_27 : decode cX2_takeTried 27 = .ok (.goto (-20), 3) := by decide +kernel
theorem dX2_takeTried_30 : decode cX2_takeTried 30 = .ok (.return_, 1) := by decide +kernel
theorem dX2_unitsBy_0 : decode cX2_unitsBy 0 = .ok (.iconst 0, 1) := by decide +kernel
theorem dX2_unitsBy_1 : decode cX2_unitsBy 1 = .ok (.istore_n 3, 1) := by decide +kernel
theorem dX2_unitsBy_2 : decode cX2_unitsBy 2 = .ok (.iconst 0, 1) := by decide +kernel
theorem dX2_unitsBy_3 : decode cX2_unitsBy 3 = .ok (.istore 4, 2) := by decide +kernel
theorem dX2_unitsBy_5 : decode cX2_unitsBy 5 = .ok (.iload 4, 2) := by decide +kernel
theorem dX2_unitsBy_7 : decode cX2_unitsBy 7 = .ok (.aload_n 1, 1) := by decide +kernel
theorem dX2_unitsBy_8 : decode cX2_unitsBy 8 = .ok (.getfield 40, 3) := by decide +kernel
theorem dX2_unitsBy_11 : decode cX2_unitsBy 11 = .ok (.if_icmp .ge 34, 3) := by decide +kernel
theorem dX2_unitsBy_14 : decode cX2_unitsBy 14 = .ok (.iload_n 3, 1) := by decide +kernel
theorem dX2_unitsBy_15 : decode cX2_unitsBy 15 = .ok (.aload_n 0, 1) := by decide +kernel
theorem dX2_unitsBy_16 : decode cX2_unitsBy 16 = .ok (.getfield 15, 3) := by decide +kernel
theorem dX2_unitsBy_19 : decode cX2_unitsBy 19 = .ok (.iload 4, 2) := by decide +kernel
theorem dX2_unitsBy_21 : decode cX2_unitsBy 21 = .ok (.iaload, 1) := by decide +kernel
theorem dX2_unitsBy_22 : decode cX2_unitsBy 22 = .ok (.iload_n 2, 1) := by decide +kernel
theorem dX2_unitsBy_23 : decode cX2_unitsBy 23 = .ok (.if_icmp .ne 13, 3) := by decide +kernel
theorem dX2_unitsBy_26 : decode cX2_unitsBy 26 = .ok (.aload_n 1, 1) := by decide +kernel
theorem dX2_unitsBy_27 : decode cX2_unitsBy 27 = .ok (.getfield 37, 3) := by decide +kernel
theorem dX2_unitsBy_30 : decode cX2_unitsBy 30 = .ok (.iload 4, 2) := by decide +kernel
theorem dX2_unitsBy_32 : decode cX2_unitsBy 32 = .ok (.iaload, 1) := by decide +kernel
theorem dX2_unitsBy_33 : decode cX2_unitsBy 33 = .ok (.goto 4, 3) := by decide +kernel
theorem dX2_unitsBy_36 : decode cX2_unitsBy 36 = .ok (.iconst 0, 1) := by decide +kernel
theorem dX2_unitsBy_37 : decode cX2_unitsBy 37 = .ok (.iadd, 1) := by decide +kernel
theorem dX2_unitsBy_38 : decode cX2_unitsBy 38 = .ok (.istore_n 3, 1) := by decide +kernel
theorem dX2_unitsBy_39 : decode cX2_unitsBy 39 = .ok (.iinc 4 1, 3) := by decide +kernel
theorem dX2_unitsBy_42 : decode cX2_unitsBy 42 = .ok (.goto (-37), 3) := by decide +kernel
theorem dX2_unitsBy_45 : decode cX2_unitsBy 45 = .ok (.iload_n 3, 1) := by decide +kernel
theorem dX2_unitsBy_46 : decode cX2_unitsBy 46 = .ok (.ireturn, 1) := by decide +kernel
theorem dX2_smells_0 : decode cX2_smells 0 = .ok (.iconst 0, 1) := by decide +kernel
theorem dX2_smells_1 : decode cX2_smells 1 = .ok (.istore_n 2, 1) := by decide +kernel
theorem dX2_smells_2 : decode cX2_smells 2 = .ok (.iload_n 2, 1) := by decide +kernel
theorem dX2_smells_3 : decode cX2_smells 3 = .ok (.aload_n 1, 1) := by decide +kernel
theorem dX2_smells_4 : decode cX2_smells 4 = .ok (.getfield 40, 3) := by decide +kernel
theorem dX2_smells_7 : decode cX2_smells 7 = .ok (.if_icmp .ge 22, 3) := by decide +kernel
theorem dX2_smells_10 : decode cX2_smells 10 = .ok (.aload_n 0, 1) := by decide +kernel
theorem dX2_smells_11 : decode cX2_smells 11 = .ok (.getfield 15, 3) := by decide +kernel
theorem dX2_smells_14 : decode cX2_smells 14 = .ok (.iload_n 2, 1) := by decide +kernel
theorem dX2_smells_15 : decode cX2_smells 15 = .ok (.iaload, 1) := by decide +kernel
theorem dX2_smells_16 : decode cX2_smells 16 = .ok (.bipush 9, 2) := by decide +kernel
theorem dX2_smells_18 : decode cX2_smells 18 = .ok (.if_icmp .ne 5, 3) := by decide +kernel
theorem dX2_smells_21 : decode cX2_smells 21 = .ok (.iconst 1, 1) := by decide +kernel
theorem dX2_smells_22 : decode cX2_smells 22 = .ok (.ireturn, 1) := by decide +kernel
theorem dX2_smells_23 : decode cX2_smells 23 = .ok (.iinc 2 1, 3) := by decide +kernel
theorem dX2_smells_26 : decode cX2_smells 26 = .ok (.goto (-24), 3) := by decide +kernel
theorem dX2_smells_29 : decode cX2_smells 29 = .ok (.iconst 0, 1) := by decide +kernel
theorem dX2_smells_30 : decode cX2_smells 30 = .ok (.ireturn, 1) := by decide +kernel
theorem dX3_init_0 : decode cX3_init 0 = .ok (.aload_n 0, 1) := by decide +kernel
theorem dX3_init_1 : decode cX3_init 1 = .ok (.invokespecial 3, 3) := by decide +kernel
theorem dX3_init_4 : decode cX3_init 4 = .ok (.aload_n 0, 1) := by decide +kernel
theorem dX3_init_5 : decode cX3_init 5 = .ok (.iconst 0, 1) := by decide +kernel
theorem dX3_init_6 : decode cX3_init 6 = .ok (.putfield 9, 3) := by decide +kernel
theorem dX3_init_9 : decode cX3_init 9 = .ok (.aload_n 0, 1) := by decide +kernel
theorem dX3_init_10 : decode cX3_init 10 = .ok (.bipush 6, 2) := by decide +kernel
theorem dX3_init_12 : decode cX3_init 12 = .ok (.newarray .int, 2) := by decide +kernel
theorem dX3_init_14 : decode cX3_init 14 = .ok (.putfield 15, 3) := by decide +kernel
theorem dX3_init_17 : decode cX3_init 17 = .ok (.aload_n 0, 1) := by decide +kernel
theorem dX3_init_18 : decode cX3_init 18 = .ok (.bipush 6, 2) := by decide +kernel
theorem dX3_init_20 : decode cX3_init 20 = .ok (.newarray .int, 2) := by decide +kernel
theorem dX3_init_22 : decode cX3_init 22 = .ok (.putfield 19, 3) := by decide +kernel
theorem dX3_init_25 : decode cX3_init 25 = .ok (.aload_n 0, 1) := by decide +kernel
theorem dX3_init_26 : decode cX3_init 26 = .ok (.bipush 6, 2) := by decide +kernel
theorem dX3_init_28 : decode cX3_init 28 = .ok (.newarray .boolean, 2) := by decide +kernel
theorem dX3_init_30 : decode cX3_init 30 = .ok (.putfield 22, 3) := by decide +kernel
theorem dX3_init_33 : decode cX3_init 33 = .ok (.return_, 1) := by decide +kernel
theorem dX3_add_0 : decode cX3_add 0 = .ok (.aload_n 0, 1) := by decide +kernel
theorem dX3_add_1 : decode cX3_add 1 = .ok (.getfield 9, 3) := by decide +kernel
theorem dX3_add_4 : decode cX3_add 4 = .ok (.bipush 6, 2) := by decide +kernel
theorem dX3_add_6 : decode cX3_add 6 = .ok (.if_icmp .lt 5, 3) := by decide +kernel
theorem dX3_add_9 : decode cX3_add 9 = .ok (.iconst 0, 1) := by decide +kernel
theorem dX3_add_10 : decode cX3_add 10 = .ok (.ireturn, 1) := by decide +kernel
theorem dX3_add_11 : decode cX3_add 11 = .ok (.aload_n 0, 1) := by decide +kernel
theorem dX3_add_12 : decode cX3_add 12 = .ok (.getfield 15, 3) := by decide +kernel
theorem dX3_add_15 : decode cX3_add 15 = .ok (.aload_n 0, 1) := by decide +kernel
theorem dX3_add_16 : decode cX3_add 16 = .ok (.getfield 9, 3) := by decide +kernel
theorem dX3_add_19 : decode cX3_add 19 = .ok (.iload_n 1, 1) := by decide +kernel
theorem dX3_add_20 : decode cX3_add 20 = .ok (.iastore, 1) := by decide +kernel
theorem dX3_add_21 : decode cX3_add 21 = .ok (.aload_n 0, 1) := by decide +kernel
theorem dX3_add_22 : decode cX3_add 22 = .ok (.getfield 19, 3) := by decide +kernel
theorem dX3_add_25 : decode cX3_add 25 = .ok (.aload_n 0, 1) := by decide +kernel
theorem dX3_add_26 : decode cX3_add 26 = .ok (.getfield 9, 3) := by decide +kernel
theorem dX3_add_29 : decode cX3_add 29 = .ok (.iload_n 2, 1) := by decide +kernel
theorem dX3_add_30 : decode cX3_add 30 = .ok (.iastore, 1) := by decide +kernel
theorem dX3_add_31 : decode cX3_add 31 = .ok (.aload_n 0, 1) := by decide +kernel
theorem dX3_add_32 : decode cX3_add 32 = .ok (.getfield 22, 3) := by decide +kernel
theorem dX3_add_35 : decode cX3_add 35 = .ok (.aload_n 0, 1) := by decide +kernel
theorem dX3_add_36 : decode cX3_add 36 = .ok (.getfield 9, 3) := by decide +kernel
theorem dX3_add_39 : decode cX3_add 39 = .ok (.iload_n 3, 1) := by decide +kernel
theorem dX3_add_40 : decode cX3_add 40 = .ok (.bastore, 1) := by decide +kernel
theorem dX3_add_41 : decode cX3_add 41 = .ok (.aload_n 0, 1) := by decide +kernel
theorem dX3_add_42 : decode cX3_add 42 = .ok (.dup, 1) := by decide +kernel
theorem dX3_add_43 : decode cX3_add 43 = .ok (.getfield 9, 3) := by decide +kernel
theorem dX3_add_46 : decode cX3_add 46 = .ok (.iconst 1, 1) := by decide +kernel
theorem dX3_add_47 : decode cX3_add 47 = .ok (.iadd, 1) := by decide +kernel
theorem dX3_add_48 : decode cX3_add 48 = .ok (.putfield 9, 3) := by decide +kernel
theorem dX3_add_51 : decode cX3_add 51 = .ok (.iconst 1, 1) := by decide +kernel
theorem dX3_add_52 : decode cX3_add 52 = .ok (.ireturn, 1) := by decide +kernel
theorem dX4_init_0 : decode cX4_init 0 = .ok (.aload_n 0, 1) := by decide +kernel
theorem dX4_init_1 : decode cX4_init 1 = .ok (.invokespecial 3, 3) := by decide +kernel
theorem dX4_init_4 : decode cX4_init 4 = .ok (.aload_n 0, 1) := by decide +kernel
theorem dX4_init_5 : decode cX4_init 5 = .ok (.iconst 0, 1) := by decide +kernel
theorem dX4_init_6 : decode cX4_init 6 = .ok (.putfield 9, 3) := by decide +kernel
theorem dX4_init_9 : decode cX4_init 9 = .ok (.aload_n 0, 1) := by decide +kernel
theorem dX4_init_10 : decode cX4_init 10 = .ok (.iconst 0, 1) := by decide +kernel
theorem dX4_init_11 : decode cX4_init 11 = .ok (.putfield 15, 3) := by decide +kernel
theorem dX4_init_14 : decode cX4_init 14 = .ok (.aload_n 0, 1) := by decide +kernel
theorem dX4_init_15 : decode cX4_init 15 = .ok (.iconst 1, 1) := by decide +kernel
theorem dX4_init_16 : decode cX4_init 16 = .ok (.putfield 18, 3) := by decide +kernel
theorem dX4_init_19 : decode cX4_init 19 = .ok (.aload_n 0, 1) := by decide +kernel
theorem dX4_init_20 : decode cX4_init 20 = .ok (.iconst 4, 1) := by decide +kernel
theorem dX4_init_21 : decode cX4_init 21 = .ok (.newarray .int, 2) := by decide +kernel
theorem dX4_init_23 : decode cX4_init 23 = .ok (.putfield 21, 3) := by decide +kernel
theorem dX4_init_26 : decode cX4_init 26 = .ok (.aload_n 0, 1) := by decide +kernel
theorem dX4_init_27 : decode cX4_init 27 = .ok (.iconst 4, 1) := by decide +kernel
theorem dX4_init_28 : decode cX4_init 28 = .ok (.newarray .int, 2) := by decide +kernel
theorem dX4_init_30 : decode cX4_init 30 = .ok (.putfield 25, 3) := by decide +kernel
theorem dX4_init_33 : decode cX4_init 33 = .ok (.aload_n 0, 1) := by decide +kernel
theorem dX4_init_34 : decode cX4_init 34 = .ok (.iconst 4, 1) := by decide +kernel
theorem dX4_init_35 : decode cX4_init 35 = .ok (.newarray .int, 2) := by decide +kernel
theorem dX4_init_37 : decode cX4_init 37 = .ok (.putfield 28, 3) := by decide +kernel
theorem dX4_init_40 : decode cX4_init 40 = .ok (.aload_n 0, 1) := by decide +kernel
theorem dX4_init_41 : decode cX4_init 41 = .ok (.iconst 4, 1) := by decide +kernel
theorem dX4_init_42 : decode cX4_init 42 = .ok (.newarray .int, 2) := by decide +kernel
theorem dX4_init_44 : decode cX4_init 44 = .ok (.putfield 31, 3) := by decide +kernel
theorem dX4_init_47 : decode cX4_init 47 = .ok (.aload_n 0, 1) := by decide +kernel
theorem dX4_init_48 : decode cX4_init 48 = .ok (.iconst 4, 1) := by decide +kernel
theorem dX4_init_49 : decode cX4_init 49 = .ok (.newarray .int, 2) := by decide +kernel
theorem dX4_init_51 : decode cX4_init 51 = .ok (.putfield 34, 3) := by decide +kernel
theorem dX4_init_54 : decode cX4_init 54 = .ok (.return_, 1) := by decide +kernel
theorem dX4_become_0 : decode cX4_become 0 = .ok (.aload_n 0, 1) := by decide +kernel
theorem dX4_become_1 : decode cX4_become 1 = .ok (.aload_n 1, 1) := by decide +kernel
theorem dX4_become_2 : decode cX4_become 2 = .ok (.getfield 9, 3) := by decide +kernel
theorem dX4_become_5 : decode cX4_become 5 = .ok (.putfield 9, 3) := by decide +kernel
theorem dX4_become_8 : decode cX4_become 8 = .ok (.aload_n 0, 1) := by decide +kernel
theorem dX4_become_9 : decode cX4_become 9 = .ok (.aload_n 1, 1) := by decide +kernel
theorem dX4_become_10 : decode cX4_become 10 = .ok (.getfield 15, 3) := by decide +kernel
theorem dX4_become_13 : decode cX4_become 13 = .ok (.putfield 15, 3) := by decide +kernel
theorem dX4_become_16 : decode cX4_become 16 = .ok (.aload_n 0, 1) := by decide +kernel
theorem dX4_become_17 : decode cX4_become 17 = .ok (.aload_n 1, 1) := by decide +kernel
theorem dX4_become_18 : decode cX4_become 18 = .ok (.getfield 18, 3) := by decide +kernel
theorem dX4_become_21 : decode cX4_become 21 = .ok (.putfield 18, 3) := by decide +kernel
theorem dX4_become_24 : decode cX4_become 24 = .ok (.iconst 0, 1) := by decide +kernel
theorem dX4_become_25 : decode cX4_become 25 = .ok (.istore_n 2, 1) := by decide +kernel
theorem dX4_become_26 : decode cX4_become 26 = .ok (.iload_n 2, 1) := by decide +kernel
theorem dX4_become_27 : decode cX4_become 27 = .ok (.iconst 4, 1) := by decide +kernel
theorem dX4_become_28 : decode cX4_become 28 = .ok (.if_icmp .ge 33, 3) := by decide +kernel
theorem dX4_become_31 : decode cX4_become 31 = .ok (.aload_n 0, 1) := by decide +kernel
theorem dX4_become_32 : decode cX4_become 32 = .ok (.getfield 21, 3) := by decide +kernel
theorem dX4_become_35 : decode cX4_become 35 = .ok (.iload_n 2, 1) := by decide +kernel
theorem dX4_become_36 : decode cX4_become 36 = .ok (.aload_n 1, 1) := by decide +kernel
theorem dX4_become_37 : decode cX4_become 37 = .ok (.getfield 21, 3) := by decide +kernel
theorem dX4_become_40 : decode cX4_become 40 = .ok (.iload_n 2, 1) := by decide +kernel
theorem dX4_become_41 : decode cX4_become 41 = .ok (.iaload, 1) := by decide +kernel
theorem dX4_become_42 : decode cX4_become 42 = .ok (.iastore, 1) := by decide +kernel
theorem dX4_become_43 : decode cX4_become 43 = .ok (.aload_n 0, 1) := by decide +kernel
theorem dX4_become_44 : decode cX4_become 44 = .ok (.getfield 25, 3) := by decide +kernel
theorem dX4_become_47 : decode cX4_become 47 = .ok (.iload_n 2, 1) := by decide +kernel
theorem dX4_become_48 : decode cX4_become 48 = .ok (.aload_n 1, 1) := by decide +kernel
theorem dX4_become_49 : decode cX4_become 49 = .ok (.getfield 25, 3) := by decide +kernel
theorem dX4_become_52 : decode cX4_become 52 = .ok (.iload_n 2, 1) := by decide +kernel
theorem dX4_become_53 : decode cX4_become 53 = .ok (.iaload, 1) := by decide +kernel
theorem dX4_become_54 : decode cX4_become 54 = .ok (.iastore, 1) := by decide +kernel
theorem dX4_become_55 : decode cX4_become 55 = .ok (.iinc 2 1, 3) := by decide +kernel
theorem dX4_become_58 : decode cX4_become 58 = .ok (.goto (-32), 3) := by decide +kernel
theorem dX4_become_61 : decode cX4_become 61 = .ok (.iconst 0, 1) := by decide +kernel
theorem dX4_become_62 : decode cX4_become 62 = .ok (.istore_n 2, 1) := by decide +kernel
theorem dX4_become_63 : decode cX4_become 63 = .ok (.iload_n 2, 1) := by decide +kernel
theorem dX4_become_64 : decode cX4_become 64 = .ok (.iconst 4, 1) := by decide +kernel
theorem dX4_become_65 : decode cX4_become 65 = .ok (.if_icmp .ge 45, 3) := by decide +kernel
theorem dX4_become_68 : decode cX4_become 68 = .ok (.aload_n 0, 1) := by decide +kernel
theorem dX4_become_69 : decode cX4_become 69 = .ok (.getfield 28, 3) := by decide +kernel
theorem dX4_become_72 : decode cX4_become 72 = .ok (.iload_n 2, 1) := by decide +kernel
theorem dX4_become_73 : decode cX4_become 73 = .ok (.aload_n 1, 1) := by decide +kernel
theorem dX4_become_74 : decode cX4_become 74 = .ok (.getfield 28, 3) := by decide +kernel
theorem dX4_become_77 : decode cX4_become 77 = .ok (.iload_n 2, 1) := by decide +kernel
theorem dX4_become_78 : decode cX4_become 78 = .ok (.iaload, 1) := by decide +kernel
theorem dX4_become_79 : decode cX4_become 79 = .ok (.iastore, 1) := by decide +kernel
theorem dX4_become_80 : decode cX4_become 80 = .ok (.aload_n 0, 1) := by decide +kernel
theorem dX4_become_81 : decode cX4_become 81 = .ok (.getfield 31, 3) := by decide +kernel
theorem dX4_become_84 : decode cX4_become 84 = .ok (.iload_n 2, 1) := by decide +kernel
theorem dX4_become_85 : decode cX4_become 85 = .ok (.aload_n 1, 1) := by decide +kernel
theorem dX4_become_86 : decode cX4_become 86 = .ok (.getfield 31, 3) := by decide +kernel
theorem dX4_become_89 : decode cX4_become 89 = .ok (.iload_n 2, 1) := by decide +kernel
theorem dX4_become_90 : decode cX4_become 90 = .ok (.iaload, 1) := by decide +kernel
theorem dX4_become_91 : decode cX4_become 91 = .ok (.iastore, 1) := by decide +kernel
theorem dX4_become_92 : decode cX4_become 92 = .ok (.aload_n 0, 1) := by decide +kernel
theorem dX4_become_93 : decode cX4_become 93 = .ok (.getfield 34, 3) := by decide +kernel
theorem dX4_become_96 : decode cX4_become 96 = .ok (.iload_n 2, 1) := by decide +kernel
theorem dX4_become_97 : decode cX4_become 97 = .ok (.aload_n 1, 1) := by decide +kernel
theorem dX4_become_98 : decode cX4_become 98 = .ok (.getfield 34, 3) := by decide +kernel
theorem dX4_become_101 : decode cX4_become 101 = .ok (.iload_n 2, 1) := by decide +kernel
theorem dX4_become_102 : decode cX4_become 102 = .ok (.iaload, 1) := by decide +kernel
theorem dX4_become_103 : decode cX4_become 103 = .ok (.iastore, 1) := by decide +kernel
theorem dX4_become_104 : decode cX4_become 104 = .ok (.iinc 2 1, 3) := by decide +kernel
theorem dX4_become_107 : decode cX4_become 107 = .ok (.goto (-44), 3) := by decide +kernel
theorem dX4_become_110 : decode cX4_become 110 = .ok (.return_, 1) := by decide +kernel
theorem dX4_hasField_0 : decode cX4_hasField 0 = .ok (.iload_n 1, 1) := by decide +kernel
theorem dX4_hasField_1 : decode cX4_hasField 1 = .ok (.ifCond .lt 15, 3) := by decide +kernel
theorem dX4_hasField_4 : decode cX4_hasField 4 = .ok (.iload_n 1, 1) := by decide +kernel
theorem dX4_hasField_5 : decode cX4_hasField 5 = .ok (.aload_n 0, 1) := by decide +kernel
theorem dX4_hasField_6 : decode cX4_hasField 6 = .ok (.getfield 9, 3) := by decide +kernel
theorem dX4_hasField_9 : decode cX4_hasField 9 = .ok (.if_icmp .ge 7, 3) := by decide +kernel
theorem dX4_hasField_12 : decode cX4_hasField 12 = .ok (.iconst 1, 1) := by decide +kernel
theorem dX4_hasField_13 : decode cX4_hasField 13 = .ok (.goto 4, 3) := by decide +kernel
theorem dX4_hasField_16 : decode cX4_hasField 16 = .ok (.iconst 0, 1) := by decide +kernel
theorem dX4_hasField_17 : decode cX4_hasField 17 = .ok (.ireturn, 1) := by decide +kernel
theorem dX4_hasMaker_0 : decode cX4_hasMaker 0 = .ok (.iload_n 1, 1) := by decide +kernel
theorem dX4_hasMaker_1 : decode cX4_hasMaker 1 = .ok (.ifCond .lt 15, 3) := by decide +kernel
theorem dX4_hasMaker_4 : decode cX4_hasMaker 4 = .ok (.iload_n 1, 1) := by decide +kernel
theorem dX4_hasMaker_5 : decode cX4_hasMaker 5 = .ok (.aload_n 0, 1) := by decide +kernel
theorem dX4_hasMaker_6 : decode cX4_hasMaker 6 = .ok (.getfield 15, 3) := by decide +kernel
theorem dX4_hasMaker_9 : decode cX4_hasMaker 9 = .ok (.if_icmp .ge 7, 3) := by decide +kernel
theorem dX4_hasMaker_12 : decode cX4_hasMaker 12 = .ok (.iconst 1, 1) := by decide +kernel
theorem dX4_hasMaker_13 : decode cX4_hasMaker 13 = .ok (.goto 4, 3) := by decide +kernel
theorem dX4_hasMaker_16 : decode cX4_hasMaker 16 = .ok (.iconst 0, 1) := by decide +kernel
theorem dX4_hasMaker_17 : decode cX4_hasMaker 17 = .ok (.ireturn, 1) := by decide +kernel
theorem dX4_hasLeague_0 : decode cX4_hasLeague 0 = .ok (.iload_n 1, 1) := by decide +kernel
theorem dX4_hasLeague_1 : decode cX4_hasLeague 1 = .ok (.ifCond .lt 15, 3) := by decide +kernel
theorem dX4_hasLeague_4 : decode cX4_hasLeague 4 = .ok (.iload_n 1, 1) := by decide +kernel
theorem dX4_hasLeague_5 : decode cX4_hasLeague 5 = .ok (.aload_n 0, 1) := by decide +kernel
theorem dX4_hasLeague_6 : decode cX4_hasLeague 6 = .ok (.invokevirtual 37, 3) := by decide +kernel
theorem dX4_hasLeague_9 : decode cX4_hasLeague 9 = .ok (.if_icmp .gt 7, 3) := by decide +kernel
theorem dX4_hasLeague_12 : decode cX4_hasLeague 12 = .ok (.iconst 1, 1) := by decide +kernel
theorem dX4_hasLeague_13 : decode cX4_hasLeague 13 = .ok (.goto 4, 3) := by decide +kernel
theorem dX4_hasLeague_16 : decode cX4_hasLeague 16 = .ok (.iconst 0, 1) := by decide +kernel
theorem dX4_hasLeague_17 : decode cX4_hasLeague 17 = .ok (.ireturn, 1) := by decide +kernel
theorem dX4_allMakers_0 : decode cX4_allMakers 0 = .ok (.iconst 1, 1) := by decide +kernel
theorem dX4_allMakers_1 : decode cX4_allMakers 1 = .ok (.aload_n 0, 1) := by decide +kernel
theorem dX4_allMakers_2 : decode cX4_allMakers 2 = .ok (.getfield 15, 3) := by decide +kernel
theorem dX4_allMakers_5 : decode cX4_allMakers 5 = .ok (.ishl, 1) := by decide +kernel
theorem dX4_allMakers_6 : decode cX4_allMakers 6 = .ok (.iconst 1, 1) := by decide +kernel
theorem dX4_allMakers_7 : decode cX4_allMakers 7 = .ok (.isub, 1) := by decide +kernel
theorem dX4_allMakers_8 : decode cX4_allMakers 8 = .ok (.ireturn, 1) := by decide +kernel
theorem dX4_makes_0 : decode cX4_makes 0 = .ok (.aload_n 0, 1) := by decide +kernel
theorem dX4_makes_1 : decode cX4_makes 1 = .ok (.getfield 28, 3) := by decide +kernel
theorem dX4_makes_4 : decode cX4_makes 4 = .ok (.iload_n 1, 1) := by decide +kernel
theorem dX4_makes_5 : decode cX4_makes 5 = .ok (.iaload, 1) := by decide +kernel
theorem dX4_makes_6 : decode cX4_makes 6 = .ok (.aload_n 0, 1) := by decide +kernel
theorem dX4_makes_7 : decode cX4_makes 7 = .ok (.getfield 21, 3) := by decide +kernel
theorem dX4_makes_10 : decode cX4_makes 10 = .ok (.iload_n 2, 1) := by decide +kernel
theorem dX4_makes_11 : decode cX4_makes 11 = .ok (.iaload, 1) := by decide +kernel
theorem dX4_makes_12 : decode cX4_makes 12 = .ok (.ishr, 1) := by decide +kernel
theorem dX4_makes_13 : decode cX4_makes 13 = .ok (.iconst 1, 1) := by decide +kernel
theorem dX4_makes_14 : decode cX4_makes 14 = .ok (.iand, 1) := by decide +kernel
theorem dX4_makes_15 : decode cX4_makes 15 = .ok (.iconst 1, 1) := by decide +kernel
theorem dX4_makes_16 : decode cX4_makes 16 = .ok (.if_icmp .ne 7, 3) := by decide +kernel
theorem dX4_makes_19 : decode cX4_makes 19 = .ok (.iconst 1, 1) := by decide +kernel
theorem dX4_makes_20 : decode cX4_makes 20 = .ok (.goto 4, 3) := by decide +kernel
theorem dX4_makes_23 : decode cX4_makes 23 = .ok (.iconst 0, 1) := by decide +kernel
theorem dX4_makes_24 : decode cX4_makes 24 = .ok (.ireturn, 1) := by decide +kernel
theorem dX4_couldBeSecondHand_0 : decode cX4_couldBeSecondHand 0 = .ok (.iload_n 1, 1) := by decide +kernel
theorem dX4_couldBeSecondHand_1 : decode cX4_couldBeSecondHand 1 = .ok (.ifCond .le 41, 3) := by decide +kernel
theorem dX4_couldBeSecondHand_4 : decode cX4_couldBeSecondHand 4 = .ok (.aload_n 0, 1) := by decide +kernel
theorem dX4_couldBeSecondHand_5 : decode cX4_couldBeSecondHand 5 = .ok (.getfield 21, 3) := by decide +kernel
theorem dX4_couldBeSecondHand_8 : decode cX4_couldBeSecondHand 8 = .ok (.iload_n 1, 1) := by decide +kernel
theorem dX4_couldBeSecondHand_9 : decode cX4_couldBeSecondHand 9 = .ok (.iconst 1, 1) := by decide +kernel
theorem dX4_couldBeSecondHand_10 : decode cX4_couldBeSecondHand 10 = .ok (.isub, 1) := by decide +kernel
theorem dX4_couldBeSecondHand_11 : decode cX4_couldBeSecondHand 11 = .ok (.iaload, 1) := by decide +kernel
theorem dX4_couldBeSecondHand_12 : decode cX4_couldBeSecondHand 12 = .ok (.aload_n 0, 1) := by decide +kernel
theorem dX4_couldBeSecondHand_13 : decode cX4_couldBeSecondHand 13 = .ok (.getfield 21, 3) := by decide +kernel
theorem dX4_couldBeSecondHand_16 : decode cX4_couldBeSecondHand 16 = .ok (.iload_n 1, 1) := by decide +kernel
theorem dX4_couldBeSecondHand_17 : decode cX4_couldBeSecondHand 17 = .ok (.iaload, 1) := by decide +kernel
theorem dX4_couldBeSecondHand_18 : decode cX4_couldBeSecondHand 18 = .ok (.if_icmp .ne 24, 3) := by decide +kernel
theorem dX4_couldBeSecondHand_21 : decode cX4_couldBeSecondHand 21 = .ok (.aload_n 0, 1) := by decide +kernel
theorem dX4_couldBeSecondHand_22 : decode cX4_couldBeSecondHand 22 = .ok (.getfield 25, 3) := by decide +kernel
theorem dX4_couldBeSecondHand_25 : decode cX4_couldBeSecondHand 25 = .ok (.iload_n 1, 1) := by decide +kernel
theorem dX4_couldBeSecondHand_26 : decode cX4_couldBeSecondHand 26 = .ok (.iconst 1, 1) := by decide +kernel
theorem dX4_couldBeSecondHand_27 : decode cX4_couldBeSecondHand 27 = .ok (.isub, 1) := by decide +kernel
theorem dX4_couldBeSecondHand_28 : decode cX4_couldBeSecondHand 28 = .ok (.iaload, 1) := by decide +kernel
theorem dX4_couldBeSecondHand_29 : decode cX4_couldBeSecondHand 29 = .ok (.aload_n 0, 1) := by decide +kernel
theorem dX4_couldBeSecondHand_30 : decode cX4_couldBeSecondHand 30 = .ok (.getfield 25, 3) := by decide +kernel
theorem dX4_couldBeSecondHand_33 : decode cX4_couldBeSecondHand 33 = .ok (.iload_n 1, 1) := by decide +kernel
theorem dX4_couldBeSecondHand_34 : decode cX4_couldBeSecondHand 34 = .ok (.iaload, 1) := by decide +kernel
theorem dX4_couldBeSecondHand_35 : decode cX4_couldBeSecondHand 35 = .ok (.if_icmp .lt 7, 3) := by decide +kernel
theorem dX4_couldBeSecondHand_38 : decode cX4_couldBeSecondHand 38 = .ok (.iconst 1, 1) := by decide +kernel
theorem dX4_couldBeSecondHand_39 : decode cX4_couldBeSecondHand 39 = .ok (.goto 4, 3) := by decide +kernel
theorem dX4_couldBeSecondHand_42 : decode cX4_couldBeSecondHand 42 = .ok (.iconst 0, 1) := by decide +kernel
theorem dX4_couldBeSecondHand_43 : decode cX4_couldBeSecondHand 43 = .ok (.ireturn, 1) := by decide +kernel
theorem dX4_refusal_0 : decode cX4_refusal 0 = .ok (.iload_n 1, 1) := by decide +kernel
theorem dX4_refusal_1 : decode cX4_refusal 1 = .ok (.tableswitch 85 1 3 #[27, 27, 56], 27) := by decide +kernel
theorem dX4_refusal_28 : decode cX4_refusal 28 = .ok (.aload_n 0, 1) := by decide +kernel
theorem dX4_refusal_29 : decode cX4_refusal 29 = .ok (.iload_n 2, 1) := by decide +kernel
theorem dX4_refusal_30 : decode cX4_refusal 30 = .ok (.invokevirtual 41, 3) := by decide +kernel
theorem dX4_refusal_33 : decode cX4_refusal 33 = .ok (.ifCond .ne 7, 3) := by decide +kernel
theorem dX4_refusal_36 : decode cX4_refusal 36 = .ok (.iconst (-1), 1) := by decide +kernel
theorem dX4_refusal_37 : decode cX4_refusal 37 = .ok (.goto 19, 3) := by decide +kernel
theorem dX4_refusal_40 : decode cX4_refusal 40 = .ok (.iload_n 3, 1) := by decide +kernel
theorem dX4_refusal_41 : decode cX4_refusal 41 = .ok (.ifCond .lt 9, 3) := by decide +kernel
theorem dX4_refusal_44 : decode cX4_refusal 44 = .ok (.iload_n 3, 1) := by decide +kernel
theorem dX4_refusal_45 : decode cX4_refusal 45 = .ok (.bipush 9, 2) := by decide +kernel
theorem dX4_refusal_47 : decode cX4_refusal 47 = .ok (.if_icmp .le 8, 3) := by decide +kernel
theorem dX4_refusal_50 : decode cX4_refusal 50 = .ok (.bipush (-2), 2) := by decide +kernel
theorem dX4_refusal_52 : decode cX4_refusal 52 = .ok (.goto 4, 3) := by decide +kernel
theorem dX4_refusal_55 : decode cX4_refusal 55 = .ok (.iconst 0, 1) := by decide +kernel
theorem dX4_refusal_56 : decode cX4_refusal 56 = .ok (.ireturn, 1) := by decide +kernel
theorem dX4_refusal_57 : decode cX4_refusal 57 = .ok (.aload_n 0, 1) := by decide +kernel
theorem dX4_refusal_58 : decode cX4_refusal 58 = .ok (.iload_n 2, 1) := by decide +kernel
theorem dX4_refusal_59 : decode cX4_refusal 59 = .ok (.invokevirtual 45, 3) := by decide +kernel
theorem dX4_refusal_62 : decode cX4_refusal 62 = .ok (.ifCond .ne 7, 3) := by decide +kernel
theorem dX4_refusal_65 : decode cX4_refusal 65 = .ok (.iconst (-1), 1) := by decide +kernel
theorem dX4_refusal_66 : decode cX4_refusal 66 = .ok (.goto 19, 3) := by decide +kernel
theorem dX4_refusal_69 : decode cX4_refusal 69 = .ok (.iload_n 3, 1) := by decide +kernel
theorem dX4_refusal_70 : decode cX4_refusal 70 = .ok (.iconst 1, 1) := by decide +kernel
theorem dX4_refusal_71 : decode cX4_refusal 71 = .ok (.if_icmp .lt 8, 3) := by decide +kernel
theorem dX4_refusal_74 : decode cX4_refusal 74 = .ok (.iload_n 3, 1) := by decide +kernel
theorem dX4_refusal_75 : decode cX4_refusal 75 = .ok (.iconst 5, 1) := by decide +kernel
theorem dX4_refusal_76 : decode cX4_refusal 76 = .ok (.if_icmp .le 8, 3) := by decide +kernel
theorem dX4_refusal_79 : decode cX4_refusal 79 = .ok (.bipush (-2), 2) := by decide +kernel
theorem dX4_refusal_81 : decode cX4_refusal 81 = .ok (.goto 4, 3) := by decide +kernel
theorem dX4_refusal_84 : decode cX4_refusal 84 = .ok (.iconst 0, 1) := by decide +kernel
theorem dX4_refusal_85 : decode cX4_refusal 85 = .ok (.ireturn, 1) := by decide +kernel
theorem dX4_refusal_86 : decode cX4_refusal 86 = .ok (.iload_n 3, 1) := by decide +kernel
theorem dX4_refusal_87 : decode cX4_refusal 87 = .ok (.ifCond .lt 8, 3) := by decide +kernel
theorem dX4_refusal_90 : decode cX4_refusal 90 = .ok (.iload_n 3, 1) := by decide +kernel
theorem dX4_refusal_91 : decode cX4_refusal 91 = .ok (.iconst 4, 1) := by decide +kernel
theorem dX4_refusal_92 : decode cX4_refusal 92 = .ok (.if_icmp .le 8, 3) := by decide +kernel
theorem dX4_refusal_95 : decode cX4_refusal 95 = .ok (.bipush (-2), 2) := by decide +kernel
theorem dX4_refusal_97 : decode cX4_refusal 97 = .ok (.goto 4, 3) := by decide +kernel
theorem dX4_refusal_100 : decode cX4_refusal 100 = .ok (.iconst 0, 1) := by decide +kernel
theorem dX4_refusal_101 : decode cX4_refusal 101 = .ok (.ireturn, 1) := by decide +kernel
theorem dX4_change_0 : decode cX4_change 0 = .ok (.iload_n 1, 1) := by decide +kernel
theorem dX4_change_1 : decode cX4_change 1 = .ok (.tableswitch 81 1 3 #[27, 45, 63], 27) := by decide +kernel
theorem dX4_change_28 : decode cX4_change 28 = .ok (.aload_n 0, 1) := by decide +kernel
theorem dX4_change_29 : decode cX4_change 29 = .ok (.getfield 34, 3) := by decide +kernel
theorem dX4_change_32 : decode cX4_change 32 = .ok (.iload_n 2, 1) := by decide +kernel
theorem dX4_change_33 : decode cX4_change 33 = .ok (.iaload, 1) := by decide +kernel
theorem dX4_change_34 : decode cX4_change 34 = .ok (.istore 4, 2) := by decide +kernel
theorem dX4_change_36 : decode cX4_change 36 = .ok (.aload_n 0, 1) := by decide +kernel
theorem dX4_change_37 : decode cX4_change 37 = .ok (.getfield 34, 3) := by decide +kernel
theorem dX4_change_40 : decode cX4_change 40 = .ok (.iload_n 2, 1) := by decide +kernel
theorem dX4_change_41 : decode cX4_change 41 = .ok (.iload_n 3, 1) := by decide +kernel
theorem dX4_change_42 : decode cX4_change 42 = .ok (.iastore, 1) := by decide +kernel
theorem dX4_change_43 : decode cX4_change 43 = .ok (.iload 4, 2) := by decide +kernel
theorem dX4_change_45 : decode cX4_change 45 = .ok (.ireturn, 1) := by decide +kernel
theorem dX4_change_46 : decode cX4_change 46 = .ok (.aload_n 0, 1) := by decide +kernel
theorem dX4_change_47 : decode cX4_change 47 = .ok (.getfield 31, 3) := by decide +kernel
theorem dX4_change_50 : decode cX4_change 50 = .ok (.iload_n 2, 1) := by decide +kernel
theorem dX4_change_51 : decode cX4_change 51 = .ok (.iaload, 1) := by decide +kernel
theorem dX4_change_52 : decode cX4_change 52 = .ok (.istore 4, 2) := by decide +kernel
theorem dX4_change_54 : decode cX4_change 54 = .ok (.aload_n 0, 1) := by decide +kernel
theorem dX4_change_55 : decode cX4_change 55 = .ok (.getfield 31, 3) := by decide +kernel
theorem dX4_change_58 : decode cX4_change 58 = .ok (.iload_n 2, 1) := by decide +kernel
theorem dX4_change_59 : decode cX4_change 59 = .ok (.iload_n 3, 1) := by decide +kernel
theorem dX4_change_60 : decode cX4_change 60 = .ok (.iastore, 1) := by decide +kernel
theorem dX4_change_61 : decode cX4_change 61 = .ok (.iload 4, 2) := by decide +kernel
theorem dX4_change_63 : decode cX4_change 63 = .ok (.ireturn, 1) := by decide +kernel
theorem dX4_change_64 : decode cX4_change 64 = .ok (.aload_n 0, 1) := by decide +kernel
theorem dX4_change_65 : decode cX4_change 65 = .ok (.getfield 25, 3) := by decide +kernel
theorem dX4_change_68 : decode cX4_change 68 = .ok (.iload_n 2, 1) := by decide +kernel
theorem dX4_change_69 : decode cX4_change 69 = .ok (.iaload, 1) := by decide +kernel
theorem dX4_change_70 : decode cX4_change 70 = .ok (.istore 4, 2) := by decide +kernel
theorem dX4_change_72 : decode cX4_change 72 = .ok (.aload_n 0, 1) := by decide +kernel
theorem dX4_change_73 : decode cX4_change 73 = .ok (.getfield 25, 3) := by decide +kernel
theorem dX4_change_76 : decode cX4_change 76 = .ok (.iload_n 2, 1) := by decide +kernel
theorem dX4_change_77 : decode cX4_change 77 = .ok (.iload_n 3, 1) := by decide +kernel
theorem dX4_change_78 : decode cX4_change 78 = .ok (.iastore, 1) := by decide +kernel
theorem dX4_change_79 : decode cX4_change 79 = .ok (.iload 4, 2) := by decide +kernel
theorem dX4_change_81 : decode cX4_change 81 = .ok (.ireturn, 1) := by decide +kernel
theorem dX4_change_82 : decode cX4_change 82 = .ok (.aload_n 0, 1) := by decide +kernel
theorem dX4_change_83 : decode cX4_change 83 = .ok (.getfield 18, 3) := by decide +kernel
theorem dX4_change_86 : decode cX4_change 86 = .ok (.istore 4, 2) := by decide +kernel
theorem dX4_change_88 : decode cX4_change 88 = .ok (.aload_n 0, 1) := by decide +kernel
theorem dX4_change_89 : decode cX4_change 89 = .ok (.iload_n 3, 1) := by decide +kernel
theorem dX4_change_90 : decode cX4_change 90 = .ok (.putfield 18, 3) := by decide +kernel
theorem dX4_change_93 : decode cX4_change 93 = .ok (.iload 4, 2) := by decide +kernel
theorem dX4_change_95 : decode cX4_change 95 = .ok (.ireturn, 1) := by decide +kernel
theorem dX5_init_0 : decode cX5_init 0 = .ok (.aload_n 0, 1) := by decide +kernel
theorem dX5_init_1 : decode cX5_init 1 = .ok (.invokespecial 3, 3) := by decide +kernel
theorem dX5_init_4 : decode cX5_init 4 = .ok (.aload_n 0, 1) := by decide +kernel
theorem dX5_init_5 : decode cX5_init 5 = .ok (.iconst 0, 1) := by decide +kernel
theorem dX5_init_6 : decode cX5_init 6 = .ok (.putfield 9, 3) := by decide +kernel
theorem dX5_init_9 : decode cX5_init 9 = .ok (.aload_n 0, 1) := by decide +kernel
theorem dX5_init_10 : decode cX5_init 10 = .ok (.bipush 60, 2) := by decide +kernel
theorem dX5_init_12 : decode cX5_init 12 = .ok (.newarray .int, 2) := by decide +kernel
theorem dX5_init_14 : decode cX5_init 14 = .ok (.putfield 15, 3) := by decide +kernel
theorem dX5_init_17 : decode cX5_init 17 = .ok (.return_, 1) := by decide +kernel
theorem dX5_append_0 : decode cX5_append 0 = .ok (.aload_n 0, 1) := by decide +kernel
theorem dX5_append_1 : decode cX5_append 1 = .ok (.getfield 9, 3) := by decide +kernel
theorem dX5_append_4 : decode cX5_append 4 = .ok (.bipush 60, 2) := by decide +kernel
theorem dX5_append_6 : decode cX5_append 6 = .ok (.if_icmp .lt 5, 3) := by decide +kernel
theorem dX5_append_9 : decode cX5_append 9 = .ok (.iconst 0, 1) := by decide +kernel
theorem dX5_append_10 : decode cX5_append 10 = .ok (.ireturn, 1) := by decide +kernel
theorem dX5_append_11 : decode cX5_append 11 = .ok (.aload_n 0, 1) := by decide +kernel
theorem dX5_append_12 : decode cX5_append 12 = .ok (.getfield 15, 3) := by decide +kernel
theorem dX5_append_15 : decode cX5_append 15 = .ok (.aload_n 0, 1) := by decide +kernel
theorem dX5_append_16 : decode cX5_append 16 = .ok (.getfield 9, 3) := by decide +kernel
theorem dX5_append_19 : decode cX5_append 19 = .ok (.iload_n 1, 1) := by decide +kernel
theorem dX5_append_20 : decode cX5_append 20 = .ok (.iastore, 1) := by decide +kernel
theorem dX5_append_21 : decode cX5_append 21 = .ok (.aload_n 0, 1) := by decide +kernel
theorem dX5_append_22 : decode cX5_append 22 = .ok (.dup, 1) := by decide +kernel
theorem dX5_append_23 : decode cX5_append 23 = .ok (.getfield 9, 3) := by decide +kernel
theorem dX5_append_26 : decode cX5_append 26 = .ok (.iconst 1, 1) := by decide +kernel
theorem dX5_append_27 : decode cX5_append 27 = .ok (.iadd, 1) := by decide +kernel
theorem dX5_append_28 : decode cX5_append 28 = .ok (.putfield 9, 3) := by decide +kernel
theorem dX5_append_31 : decode cX5_append 31 = .ok (.iconst 1, 1) := by decide +kernel
theorem dX5_append_32 : decode cX5_append 32 = .ok (.ireturn, 1) := by decide +kernel
theorem dX5_readInto_0 : decode cX5_readInto 0 = .ok (.aload_n 1, 1) := by decide +kernel
theorem dX5_readInto_1 : decode cX5_readInto 1 = .ok (.iconst 0, 1) := by decide +kernel
theorem dX5_readInto_2 : decode cX5_readInto 2 = .ok (.putfield 19, 3) := by decide +kernel
theorem dX5_readInto_5 : decode cX5_readInto 5 = .ok (.aload_n 1, 1) := by decide +kernel
theorem dX5_readInto_6 : decode cX5_readInto 6 = .ok (.iconst 0, 1) := by decide +kernel
theorem dX5_readInto_7 : decode cX5_readInto 7 = .ok (.putfield 24, 3) := by decide +kernel
theorem dX5_readInto_10 : decode cX5_readInto 10 = .ok (.iconst 0, 1) := by decide +kernel
theorem dX5_readInto_11 : decode cX5_readInto 11 = .ok (.istore_n 2, 1) := by decide +kernel
theorem dX5_readInto_12 : decode cX5_readInto 12 = .ok (.iconst 0, 1) := by decide +kernel
theorem dX5_readInto_13 : decode cX5_readInto 13 = .ok (.istore_n 3, 1) := by decide +kernel
theorem dX5_readInto_14 : decode cX5_readInto 14 = .ok (.iload_n 3, 1) := by decide +kernel
theorem dX5_readInto_15 : decode cX5_readInto 15 = .ok (.aload_n 0, 1) := by decide +kernel
theorem dX5_readInto_16 : decode cX5_readInto 16 = .ok (.getfield 9, 3) := by decide +kernel
theorem dX5_readInto_19 : decode cX5_readInto 19 = .ok (.if_icmp .ge 28, 3) := by decide +kernel
theorem dX5_readInto_22 : decode cX5_readInto 22 = .ok (.iload_n 2, 1) := by decide +kernel
theorem dX5_readInto_23 : decode cX5_readInto 23 = .ok (.aload_n 0, 1) := by decide +kernel
theorem dX5_readInto_24 : decode cX5_readInto 24 = .ok (.getfield 15, 3) := by decide +kernel
theorem dX5_readInto_27 : decode cX5_readInto 27 = .ok (.iload_n 3, 1) := by decide +kernel
theorem dX5_readInto_28 : decode cX5_readInto 28 = .ok (.iaload, 1) := by decide +kernel
theorem dX5_readInto_29 : decode cX5_readInto 29 = .ok (.aload_n 1, 1) := by decide +kernel
theorem dX5_readInto_30 : decode cX5_readInto 30 = .ok (.invokestatic 27, 3) := by decide +kernel
theorem dX5_readInto_33 : decode cX5_readInto 33 = .ok (.istore_n 2, 1) := by decide +kernel
theorem dX5_readInto_34 : decode cX5_readInto 34 = .ok (.iload_n 2, 1) := by decide +kernel
theorem dX5_readInto_35 : decode cX5_readInto 35 = .ok (.iconst 5, 1) := by decide +kernel
theorem dX5_readInto_36 : decode cX5_readInto 36 = .ok (.if_icmp .ne 5, 3) := by decide +kernel
theorem dX5_readInto_39 : decode cX5_readInto 39 = .ok (.iload_n 3, 1) := by decide +kernel
theorem dX5_readInto_40 : decode cX5_readInto 40 = .ok (.ireturn, 1) := by decide +kernel
theorem dX5_readInto_41 : decode cX5_readInto 41 = .ok (.iinc 3 1, 3) := by decide +kernel
theorem dX5_readInto_44 : decode cX5_readInto 44 = .ok (.goto (-30), 3) := by decide +kernel
theorem dX5_readInto_47 : decode cX5_readInto 47 = .ok (.iload_n 2, 1) := by decide +kernel
theorem dX5_readInto_48 : decode cX5_readInto 48 = .ok (.ifCond .ne 8, 3) := by decide +kernel
theorem dX5_readInto_51 : decode cX5_readInto 51 = .ok (.bipush (-9), 2) := by decide +kernel
theorem dX5_readInto_53 : decode cX5_readInto 53 = .ok (.goto 7, 3) := by decide +kernel
theorem dX5_readInto_56 : decode cX5_readInto 56 = .ok (.aload_n 0, 1) := by decide +kernel
theorem dX5_readInto_57 : decode cX5_readInto 57 = .ok (.getfield 9, 3) := by decide +kernel
theorem dX5_readInto_60 : decode cX5_readInto 60 = .ok (.ireturn, 1) := by decide +kernel
theorem dX5_behind_0 : decode cX5_behind 0 = .ok (.iload_n 0, 1) := by decide +kernel
theorem dX5_behind_1 : decode cX5_behind 1 = .ok (.tableswitch 65 0 4 #[35, 41, 47, 53, 59], 35) := by decide +kernel
theorem dX5_behind_36 : decode cX5_behind 36 = .ok (.iload_n 1, 1) := by decide +kernel
theorem dX5_behind_37 : decode cX5_behind 37 = .ok (.aload_n 2, 1) := by decide +kernel
theorem dX5_behind_38 : decode cX5_behind 38 = .ok (.invokestatic 31, 3) := by decide +kernel
theorem dX5_behind_41 : decode cX5_behind 41 = .ok (.ireturn, 1) := by decide +kernel
theorem dX5_behind_42 : decode cX5_behind 42 = .ok (.iload_n 1, 1) := by decide +kernel
theorem dX5_behind_43 : decode cX5_behind 43 = .ok (.aload_n 2, 1) := by decide +kernel
theorem dX5_behind_44 : decode cX5_behind 44 = .ok (.invokestatic 35, 3) := by decide +kernel
theorem dX5_behind_47 : decode cX5_behind 47 = .ok (.ireturn, 1) := by decide +kernel
theorem dX5_behind_48 : decode cX5_behind 48 = .ok (.iload_n 1, 1) := by decide +kernel
theorem dX5_behind_49 : decode cX5_behind 49 = .ok (.aload_n 2, 1) := by decide +kernel
theorem dX5_behind_50 : decode cX5_behind 50 = .ok (.invokestatic 38, 3) := by decide +kernel
theorem dX5_behind_53 : decode cX5_behind 53 = .ok (.ireturn, 1) := by decide +kernel
theorem dX5_behind_54 : decode cX5_behind 54 = .ok (.iload_n 1, 1) := by decide +kernel
theorem dX5_behind_55 : decode cX5_behind 55 = .ok (.aload_n 2, 1) := by decide +kernel
theorem dX5_behind_56 : decode cX5_behind 56 = .ok (.invokestatic 41, 3) := by decide +kernel
theorem dX5_behind_59 : decode cX5_behind 59 = .ok (.ireturn, 1) := by decide +kernel
theorem dX5_behind_60 : decode cX5_behind 60 = .ok (.iload_n 1, 1) := by decide +kernel
theorem dX5_behind_61 : decode cX5_behind 61 = .ok (.aload_n 2, 1) := by decide +kernel
theorem dX5_behind_62 : decode cX5_behind 62 = .ok (.invokestatic 44, 3) := by decide +kernel
theorem dX5_behind_65 : decode cX5_behind 65 = .ok (.ireturn, 1) := by decide +kernel
theorem dX5_behind_66 : decode cX5_behind 66 = .ok (.iconst 5, 1) := by decide +kernel
theorem dX5_behind_67 : decode cX5_behind 67 = .ok (.ireturn, 1) := by decide +kernel
theorem dX5_behindHead_0 : decode cX5_behindHead 0 = .ok (.iload_n 0, 1) := by decide +kernel
theorem dX5_behindHead_1 : decode cX5_behindHead 1 = .ok (.bipush 70, 2) := by decide +kernel
theorem dX5_behindHead_3 : decode cX5_behindHead 3 = .ok (.if_icmp .ne 13, 3) := by decide +kernel
theorem dX5_behindHead_6 : decode cX5_behindHead 6 = .ok (.aload_n 1, 1) := by decide +kernel
theorem dX5_behindHead_7 : decode cX5_behindHead 7 = .ok (.getfield 19, 3) := by decide +kernel
theorem dX5_behindHead_10 : decode cX5_behindHead 10 = .ok (.iconst 4, 1) := by decide +kernel
theorem dX5_behindHead_11 : decode cX5_behindHead 11 = .ok (.if_icmp .ge 5, 3) := by decide +kernel
theorem dX5_behindHead_14 : decode cX5_behindHead 14 = .ok (.iconst 1, 1) := by decide +kernel
theorem dX5_behindHead_15 : decode cX5_behindHead 15 = .ok (.ireturn, 1) := by decide +kernel
theorem dX5_behindHead_16 : decode cX5_behindHead 16 = .ok (.iload_n 0, 1) := by decide +kernel
theorem dX5_behindHead_17 : decode cX5_behindHead 17 = .ok (.bipush 77, 2) := by decide +kernel
theorem dX5_behindHead_19 : decode cX5_behindHead 19 = .ok (.if_icmp .ne 23, 3) := by decide +kernel
theorem dX5_behindHead_22 : decode cX5_behindHead 22 = .ok (.aload_n 1, 1) := by decide +kernel
theorem dX5_behindHead_23 : decode cX5_behindHead 23 = .ok (.getfield 24, 3) := by decide +kernel
theorem dX5_behindHead_26 : decode cX5_behindHead 26 = .ok (.iconst 4, 1) := by decide +kernel
theorem dX5_behindHead_27 : decode cX5_behindHead 27 = .ok (.if_icmp .ge 15, 3) := by decide +kernel
theorem dX5_behindHead_30 : decode cX5_behindHead 30 = .ok (.aload_n 1, 1) := by decide +kernel
theorem dX5_behindHead_31 : decode cX5_behindHead 31 = .ok (.getfield 47, 3) := by decide +kernel
theorem dX5_behindHead_34 : decode cX5_behindHead 34 = .ok (.aload_n 1, 1) := by decide +kernel
theorem dX5_behindHead_35 : decode cX5_behindHead 35 = .ok (.getfield 24, 3) := by decide +kernel
theorem dX5_behindHead_38 : decode cX5_behindHead 38 = .ok (.iconst 0, 1) := by decide +kernel
theorem dX5_behindHead_39 : decode cX5_behindHead 39 = .ok (.iastore, 1) := by decide +kernel
theorem dX5_behindHead_40 : decode cX5_behindHead 40 = .ok (.iconst 3, 1) := by decide +kernel
theorem dX5_behindHead_41 : decode cX5_behindHead 41 = .ok (.ireturn, 1) := by decide +kernel
theorem dX5_behindHead_42 : decode cX5_behindHead 42 = .ok (.iconst 5, 1) := by decide +kernel
theorem dX5_behindHead_43 : decode cX5_behindHead 43 = .ok (.ireturn, 1) := by decide +kernel
theorem dX5_behindFieldWeather_0 : decode cX5_behindFieldWeather 0 = .ok (.iload_n 0, 1) := by decide +kernel
theorem dX5_behindFieldWeather_1 : decode cX5_behindFieldWeather 1 = .ok (.invokestatic 50, 3) := by decide +kernel
theorem dX5_behindFieldWeather_4 : decode cX5_behindFieldWeather 4 = .ok (.istore_n 2, 1) := by decide +kernel
theorem dX5_behindFieldWeather_5 : decode cX5_behindFieldWeather 5 = .ok (.iload_n 2, 1) := by decide +kernel
theorem dX5_behindFieldWeather_6 : decode cX5_behindFieldWeather 6 = .ok (.ifCond .ge 5, 3) := by decide +kernel
theorem dX5_behindFieldWeather_9 : decode cX5_behindFieldWeather 9 = .ok (.iconst 5, 1) := by decide +kernel
theorem dX5_behindFieldWeather_10 : decode cX5_behindFieldWeather 10 = .ok (.ireturn, 1) := by decide +kernel
theorem dX5_behindFieldWeather_11 : decode cX5_behindFieldWeather 11 = .ok (.aload_n 1, 1) := by decide +kernel
theorem dX5_behindFieldWeather_12 : decode cX5_behindFieldWeather 12 = .ok (.getfield 54, 3) := by decide +kernel
theorem dX5_behindFieldWeather_15 : decode cX5_behindFieldWeather 15 = .ok (.aload_n 1, 1) := by decide +kernel
theorem dX5_behindFieldWeather_16 : decode cX5_behindFieldWeather 16 = .ok (.getfield 19, 3) := by decide +kernel
theorem dX5_behindFieldWeather_19 : decode cX5_behindFieldWeather 19 = .ok (.iload_n 2, 1) := by decide +kernel
theorem dX5_behindFieldWeather_20 : decode cX5_behindFieldWeather 20 = .ok (.iastore, 1) := by decide +kernel
theorem dX5_behindFieldWeather_21 : decode cX5_behindFieldWeather 21 = .ok (.iconst 2, 1) := by decide +kernel
theorem dX5_behindFieldWeather_22 : decode cX5_behindFieldWeather 22 = .ok (.ireturn, 1) := by decide +kernel
theorem dX5_behindFieldUnits_0 : decode cX5_behindFieldUnits 0 = .ok (.iload_n 0, 1) := by decide +kernel
theorem dX5_behindFieldUnits_1 : decode cX5_behindFieldUnits 1 = .ok (.bipush 48, 2) := by decide +kernel
theorem dX5_behindFieldUnits_3 : decode cX5_behindFieldUnits 3 = .ok (.isub, 1) := by decide +kernel
theorem dX5_behindFieldUnits_4 : decode cX5_behindFieldUnits 4 = .ok (.istore_n 2, 1) := by decide +kernel
theorem dX5_behindFieldUnits_5 : decode cX5_behindFieldUnits 5 = .ok (.iload_n 2, 1) := by decide +kernel
theorem dX5_behindFieldUnits_6 : decode cX5_behindFieldUnits 6 = .ok (.iconst 1, 1) := by decide +kernel
theorem dX5_behindFieldUnits_7 : decode cX5_behindFieldUnits 7 = .ok (.if_icmp .lt 8, 3) := by decide +kernel
theorem dX5_behindFieldUnits_10 : decode cX5_behindFieldUnits 10 = .ok (.iload_n 2, 1) := by decide +kernel
theorem dX5_behindFieldUnits_11 : decode cX5_behindFieldUnits 11 = .ok (.iconst 5, 1) := by decide +kernel
theorem dX5_behindFieldUnits_12 : decode cX5_behindFieldUnits 12 = .ok (.if_icmp .le 5, 3) := by decide +kernel
theorem dX5_behindFieldUnits_15 : decode cX5_behindFieldUnits 15 = .ok (.iconst 5, 1) := by decide +kernel
theorem dX5_behindFieldUnits_16 : decode cX5_behindFieldUnits 16 = .ok (.ireturn, 1) := by decide +kernel
theorem dX5_behindFieldUnits_17 : decode cX5_behindFieldUnits 17 = .ok (.aload_n 1, 1) := by decide +kernel
theorem dX5_behindFieldUnits_18 : decode cX5_behindFieldUnits 18 = .ok (.getfield 57, 3) := by decide +kernel
theorem dX5_behindFieldUnits_21 : decode cX5_behindFieldUnits 21 = .ok (.aload_n 1, 1) := by decide +kernel
theorem dX5_behindFieldUnits_22 : decode cX5_behindFieldUnits 22 = .ok (.getfield 19, 3) := by decide +kernel
theorem dX5_behindFieldUnits_25 : decode cX5_behindFieldUnits 25 = .ok (.iload_n 2, 1) := by decide +kernel
theorem dX5_behindFieldUnits_26 : decode cX5_behindFieldUnits 26 = .ok (.iastore, 1) := by decide +kernel
theorem dX5_behindFieldUnits_27 : decode cX5_behindFieldUnits 27 = .ok (.aload_n 1, 1) := by decide +kernel
theorem dX5_behindFieldUnits_28 : decode cX5_behindFieldUnits 28 = .ok (.dup, 1) := by decide +kernel
theorem dX5_behindFieldUnits_29 : decode cX5_behindFieldUnits 29 = .ok (.getfield 19, 3) := by decide +kernel
theorem dX5_behindFieldUnits_32 : decode cX5_behindFieldUnits 32 = .ok (.iconst 1, 1) := by decide +kernel
theorem dX5_behindFieldUnits_33 : decode cX5_behindFieldUnits 33 = .ok (.iadd, 1) := by decide +kernel
theorem dX5_behindFieldUnits_34 : decode cX5_behindFieldUnits 34 = .ok (.putfield 19, 3) := by decide +kernel
theorem dX5_behindFieldUnits_37 : decode cX5_behindFieldUnits 37 = .ok (.iconst 0, 1) := by decide +kernel
theorem dX5_behindFieldUnits_38 : decode cX5_behindFieldUnits 38 = .ok (.ireturn, 1) := by decide +kernel
theorem dX5_behindMakerWeatherOrStock_0 : decode cX5_behindMakerWeatherOrStock 0 = .ok (.aload_n 1, 1) := by decide +kernel
theorem dX5_behindMakerWeatherOrStock_1 : decode cX5_behindMakerWeatherOrStock 1 = .ok (.getfield 47, 3) := by decide +kernel
theorem dX5_behindMakerWeatherOrStock_4 : decode cX5_behindMakerWeatherOrStock 4 = .ok (.aload_n 1, 1) := by decide +kernel
theorem dX5_behindMakerWeatherOrStock_5 : decode cX5_behindMakerWeatherOrStock 5 = .ok (.getfield 24, 3) := by decide +kernel
theorem dX5_behindMakerWeatherOrStock_8 : decode cX5_behindMakerWeatherOrStock 8 = .ok (.iaload, 1) := by decide +kernel
theorem dX5_behindMakerWeatherOrStock_9 : decode cX5_behindMakerWeatherOrStock 9 = .ok (.istore_n 2, 1) := by decide +kernel
theorem dX5_behindMakerWeatherOrStock_10 : decode cX5_behindMakerWeatherOrStock 10 = .ok (.iload_n 0, 1) := by decide +kernel
theorem dX5_behindMakerWeatherOrStock_11 : decode cX5_behindMakerWeatherOrStock 11 = .ok (.invokestatic 50, 3) := by decide +kernel
theorem dX5_behindMakerWeatherOrStock_14 : decode cX5_behindMakerWeatherOrStock 14 = .ok (.istore_n 3, 1) := by decide +kernel
theorem dX5_behindMakerWeatherOrStock_15 : decode cX5_behindMakerWeatherOrStock 15 = .ok (.iload_n 3, 1) := by decide +kernel
theorem dX5_behindMakerWeatherOrStock_16 : decode cX5_behindMakerWeatherOrStock 16 = .ok (.ifCond .lt 26, 3) := by decide +kernel
theorem dX5_behindMakerWeatherOrStock_19 : decode cX5_behindMakerWeatherOrStock 19 = .ok (.iconst 1, 1) := by decide +kernel
theorem dX5_behindMakerWeatherOrStock_20 : decode cX5_behindMakerWeatherOrStock 20 = .ok (.iload_n 3, 1) := by decide +kernel
theorem dX5_behindMakerWeatherOrStock_21 : decode cX5_behindMakerWeatherOrStock 21 = .ok (.ishl, 1) := by decide +kernel
theorem dX5_behindMakerWeatherOrStock_22 : decode cX5_behindMakerWeatherOrStock 22 = .ok (.iload_n 2, 1) := by decide +kernel
theorem dX5_behindMakerWeatherOrStock_23 : decode cX5_behindMakerWeatherOrStock 23 = .ok (.if_icmp .le 19, 3) := by decide +kernel
theorem dX5_behindMakerWeatherOrStock_26 : decode cX5_behindMakerWeatherOrStock 26 = .ok (.aload_n 1, 1) := by decide +kernel
theorem dX5_behindMakerWeatherOrStock_27 : decode cX5_behindMakerWeatherOrStock 27 = .ok (.getfield 47, 3) := by decide +kernel
theorem dX5_behindMakerWeatherOrStock_30 : decode cX5_behindMakerWeatherOrStock 30 = .ok (.aload_n 1, 1) := by decide +kernel
theorem dX5_behindMakerWeatherOrStock_31 : decode cX5_behindMakerWeatherOrStock 31 = .ok (.getfield 24, 3) := by decide +kernel
theorem dX5_behindMakerWeatherOrStock_34 : decode cX5_behindMakerWeatherOrStock 34 = .ok (.iload_n 2, 1) := by decide +kernel
theorem dX5_behindMakerWeatherOrStock_35 : decode cX5_behindMakerWeatherOrStock 35 = .ok (.iconst 1, 1) := by decide +kernel
theorem dX5_behindMakerWeatherOrStock_36 : decode cX5_behindMakerWeatherOrStock 36 = .ok (.iload_n 3, 1) := by decide +kernel
theorem dX5_behindMakerWeatherOrStock_37 : decode cX5_behindMakerWeatherOrStock 37 = .ok (.ishl, 1) := by decide +kernel
theorem dX5_behindMakerWeatherOrStock_38 : decode cX5_behindMakerWeatherOrStock 38 = .ok (.ior, 1) := by decide +kernel
theorem dX5_behindMakerWeatherOrStock_39 : decode cX5_behindMakerWeatherOrStock 39 = .ok (.iastore, 1) := by decide +kernel
theorem dX5_behindMakerWeatherOrStock_40 : decode cX5_behindMakerWeatherOrStock 40 = .ok (.iconst 3, 1) := by decide +kernel
theorem dX5_behindMakerWeatherOrStock_41 : decode cX5_behindMakerWeatherOrStock 41 = .ok (.ireturn, 1) := by decide +kernel
theorem dX5_behindMakerWeatherOrStock_42 : decode cX5_behindMakerWeatherOrStock 42 = .ok (.iload_n 2, 1) := by decide +kernel
theorem dX5_behindMakerWeatherOrStock_43 : decode cX5_behindMakerWeatherOrStock 43 = .ok (.ifCond .eq 10, 3) := by decide +kernel
theorem dX5_behindMakerWeatherOrStock_46 : decode cX5_behindMakerWeatherOrStock 46 = .ok (.iload_n 0, 1) := by decide +kernel
theorem dX5_behindMakerWeatherOrStock_47 : decode cX5_behindMakerWeatherOrStock 47 = .ok (.invokestatic 60, 3) := by decide +kernel
theorem dX5_behindMakerWeatherOrStock_50 : decode cX5_behindMakerWeatherOrStock 50 = .ok (.ifCond .ne 5, 3) := by decide +kernel
theorem dX5_behindMakerWeatherOrStock_53 : decode cX5_behindMakerWeatherOrStock 53 = .ok (.iconst 5, 1) := by decide +kernel
theorem dX5_behindMakerWeatherOrStock_54 : decode cX5_behindMakerWeatherOrStock 54 = .ok (.ireturn, 1) := by decide +kernel
theorem dX5_behindMakerWeatherOrStock_55 : decode cX5_behindMakerWeatherOrStock 55 = .ok (.aload_n 1, 1) := by decide +kernel
theorem dX5_behindMakerWeatherOrStock_56 : decode cX5_behindMakerWeatherOrStock 56 = .ok (.getfield 64, 3) := by decide +kernel
theorem dX5_behindMakerWeatherOrStock_59 : decode cX5_behindMakerWeatherOrStock 59 = .ok (.aload_n 1, 1) := by decide +kernel
theorem dX5_behindMakerWeatherOrStock_60 : decode cX5_behindMakerWeatherOrStock 60 = .ok (.getfield 24, 3) := by decide +kernel
theorem dX5_behindMakerWeatherOrStock_63 : decode cX5_behindMakerWeatherOrStock 63 = .ok (.iload_n 0, 1) := by decide +kernel
theorem dX5_behindMakerWeatherOrStock_64 : decode cX5_behindMakerWeatherOrStock 64 = .ok (.bipush 48, 2) := by decide +kernel
theorem dX5_behindMakerWeatherOrStock_66 : decode cX5_behindMakerWeatherOrStock 66 = .ok (.isub, 1) := by decide +kernel
theorem dX5_behindMakerWeatherOrStock_67 : decode cX5_behindMakerWeatherOrStock 67 = .ok (.iastore, 1) := by decide +kernel
theorem dX5_behindMakerWeatherOrStock_68 : decode cX5_behindMakerWeatherOrStock 68 = .ok (.iconst 4, 1) := by decide +kernel
theorem dX5_behindMakerWeatherOrStock_69 : decode cX5_behindMakerWeatherOrStock 69 = .ok (.ireturn, 1) := by decide +kernel
theorem dX5_behindMakerPrice_0 : decode cX5_behindMakerPrice 0 = .ok (.iload_n 0, 1) := by decide +kernel
theorem dX5_behindMakerPrice_1 : decode cX5_behindMakerPrice 1 = .ok (.invokestatic 60, 3) := by decide +kernel
theorem dX5_behindMakerPrice_4 : decode cX5_behindMakerPrice 4 = .ok (.ifCond .ne 5, 3) := by decide +kernel
theorem dX5_behindMakerPrice_7 : decode cX5_behindMakerPrice 7 = .ok (.iconst 5, 1) := by decide +kernel
theorem dX5_behindMakerPrice_8 : decode cX5_behindMakerPrice 8 = .ok (.ireturn, 1) := by decide +kernel
theorem dX5_behindMakerPrice_9 : decode cX5_behindMakerPrice 9 = .ok (.aload_n 1, 1) := by decide +kernel
theorem dX5_behindMakerPrice_10 : decode cX5_behindMakerPrice 10 = .ok (.getfield 67, 3) := by decide +kernel
theorem dX5_behindMakerPrice_13 : decode cX5_behindMakerPrice 13 = .ok (.aload_n 1, 1) := by decide +kernel
theorem dX5_behindMakerPrice_14 : decode cX5_behindMakerPrice 14 = .ok (.getfield 24, 3) := by decide +kernel
theorem dX5_behindMakerPrice_17 : decode cX5_behindMakerPrice 17 = .ok (.iload_n 0, 1) := by decide +kernel
theorem dX5_behindMakerPrice_18 : decode cX5_behindMakerPrice 18 = .ok (.bipush 48, 2) := by decide +kernel
theorem dX5_behindMakerPrice_20 : decode cX5_behindMakerPrice 20 = .ok (.isub, 1) := by decide +kernel
theorem dX5_behindMakerPrice_21 : decode cX5_behindMakerPrice 21 = .ok (.iastore, 1) := by decide +kernel
theorem dX5_behindMakerPrice_22 : decode cX5_behindMakerPrice 22 = .ok (.aload_n 1, 1) := by decide +kernel
theorem dX5_behindMakerPrice_23 : decode cX5_behindMakerPrice 23 = .ok (.dup, 1) := by decide +kernel
theorem dX5_behindMakerPrice_24 : decode cX5_behindMakerPrice 24 = .ok (.getfield 24, 3) := by decide +kernel
theorem dX5_behindMakerPrice_27 : decode cX5_behindMakerPrice 27 = .ok (.iconst 1, 1) := by decide +kernel
theorem dX5_behindMakerPrice_28 : decode cX5_behindMakerPrice 28 = .ok (.iadd, 1) := by decide +kernel
theorem dX5_behindMakerPrice_29 : decode cX5_behindMakerPrice 29 = .ok (.putfield 24, 3) := by decide +kernel
theorem dX5_behindMakerPrice_32 : decode cX5_behindMakerPrice 32 = .ok (.iconst 0, 1) := by decide +kernel
theorem dX5_behindMakerPrice_33 : decode cX5_behindMakerPrice 33 = .ok (.ireturn, 1) := by decide +kernel
theorem dX5_isFigure_0 : decode cX5_isFigure 0 = .ok (.iload_n 0, 1) := by decide +kernel
theorem dX5_isFigure_1 : decode cX5_isFigure 1 = .ok (.bipush 48, 2) := by decide +kernel
theorem dX5_isFigure_3 : decode cX5_isFigure 3 = .ok (.if_icmp .lt 13, 3) := by decide +kernel
theorem dX5_isFigure_6 : decode cX5_isFigure 6 = .ok (.iload_n 0, 1) := by decide +kernel
theorem dX5_isFigure_7 : decode cX5_isFigure 7 = .ok (.bipush 57, 2) := by decide +kernel
theorem dX5_isFigure_9 : decode cX5_isFigure 9 = .ok (.if_icmp .gt 7, 3) := by decide +kernel
theorem dX5_isFigure_12 : decode cX5_isFigure 12 = .ok (.iconst 1, 1) := by decide +kernel
theorem dX5_isFigure_13 : decode cX5_isFigure 13 = .ok (.goto 4, 3) := by decide +kernel
theorem dX5_isFigure_16 : decode cX5_isFigure 16 = .ok (.iconst 0, 1) := by decide +kernel
theorem dX5_isFigure_17 : decode cX5_isFigure 17 = .ok (.ireturn, 1) := by decide +kernel
theorem dX5_weatherOf_0 : decode cX5_weatherOf 0 = .ok (.iload_n 0, 1) := by decide +kernel
theorem dX5_weatherOf_1 : decode cX5_weatherOf 1 = .ok (.lookupswitch 41 #[(114, 35), (115, 39), (119, 37)], 35) := by decide +kernel
theorem dX5_weatherOf_36 : decode cX5_weatherOf 36 = .ok (.iconst 0, 1) := by decide +kernel
theorem dX5_weatherOf_37 : decode cX5_weatherOf 37 = .ok (.ireturn, 1) := by decide +kernel
theorem dX5_weatherOf_38 : decode cX5_weatherOf 38 = .ok (.iconst 1, 1) := by decide +kernel
theorem dX5_weatherOf_39 : decode cX5_weatherOf 39 = .ok (.ireturn, 1) := by decide +kernel
theorem dX5_weatherOf_40 : decode cX5_weatherOf 40 = .ok (.iconst 2, 1) := by decide +kernel
theorem dX5_weatherOf_41 : decode cX5_weatherOf 41 = .ok (.ireturn, 1) := by decide +kernel
theorem dX5_weatherOf_42 : decode cX5_weatherOf 42 = .ok (.iconst (-1), 1) := by decide +kernel
theorem dX5_weatherOf_43 : decode cX5_weatherOf 43 = .ok (.ireturn, 1) := by decide +kernel
theorem dX6_init_0 : decode cX6_init 0 = .ok (.aload_n 0, 1) := by decide +kernel
theorem dX6_init_1 : decode cX6_init 1 = .ok (.invokespecial 3, 3) := by decide +kernel
theorem dX6_init_4 : decode cX6_init 4 = .ok (.aload_n 0, 1) := by decide +kernel
theorem dX6_init_5 : decode cX6_init 5 = .ok (.new 9, 3) := by decide +kernel
theorem dX6_init_8 : decode cX6_init 8 = .ok (.dup, 1) := by decide +kernel
theorem dX6_init_9 : decode cX6_init 9 = .ok (.invokespecial 11, 3) := by decide +kernel
theorem dX6_init_12 : decode cX6_init 12 = .ok (.putfield 12, 3) := by decide +kernel
theorem dX6_init_15 : decode cX6_init 15 = .ok (.aload_n 0, 1) := by decide +kernel
theorem dX6_init_16 : decode cX6_init 16 = .ok (.new 16, 3) := by decide +kernel
theorem dX6_init_19 : decode cX6_init 19 = .ok (.dup, 1) := by decide +kernel
theorem dX6_init_20 : decode cX6_init 20 = .ok (.invokespecial 18, 3) := by decide +kernel
theorem dX6_init_23 : decode cX6_init 23 = .ok (.putfield 19, 3) := by decide +kernel
theorem dX6_init_26 : decode cX6_init 26 = .ok (.aload_n 0, 1) := by decide +kernel
theorem dX6_init_27 : decode cX6_init 27 = .ok (.new 16, 3) := by decide +kernel
theorem dX6_init_30 : decode cX6_init 30 = .ok (.dup, 1) := by decide +kernel
theorem dX6_init_31 : decode cX6_init 31 = .ok (.invokespecial 18, 3) := by decide +kernel
theorem dX6_init_34 : decode cX6_init 34 = .ok (.putfield 23, 3) := by decide +kernel
theorem dX6_init_37 : decode cX6_init 37 = .ok (.aload_n 0, 1) := by decide +kernel
theorem dX6_init_38 : decode cX6_init 38 = .ok (.new 26, 3) := by decide +kernel
theorem dX6_init_41 : decode cX6_init 41 = .ok (.dup, 1) := by decide +kernel
theorem dX6_init_42 : decode cX6_init 42 = .ok (.invokespecial 28, 3) := by decide +kernel
theorem dX6_init_45 : decode cX6_init 45 = .ok (.putfield 29, 3) := by decide +kernel
theorem dX6_init_48 : decode cX6_init 48 = .ok (.aload_n 0, 1) := by decide +kernel
theorem dX6_init_49 : decode cX6_init 49 = .ok (.new 33, 3) := by decide +kernel
theorem dX6_init_52 : decode cX6_init 52 = .ok (.dup, 1) := by decide +kernel
theorem dX6_init_53 : decode cX6_init 53 = .ok (.invokespecial 35, 3) := by decide +kernel
theorem dX6_init_56 : decode cX6_init 56 = .ok (.putfield 36, 3) := by decide +kernel
theorem dX6_init_59 : decode cX6_init 59 = .ok (.aload_n 0, 1) := by decide +kernel
theorem dX6_init_60 : decode cX6_init 60 = .ok (.new 40, 3) := by decide +kernel
theorem dX6_init_63 : decode cX6_init 63 = .ok (.dup, 1) := by decide +kernel
theorem dX6_init_64 : decode cX6_init 64 = .ok (.invokespecial 42, 3) := by decide +kernel
theorem dX6_init_67 : decode cX6_init 67 = .ok (.putfield 43, 3) := by decide +kernel
theorem dX6_init_70 : decode cX6_init 70 = .ok (.aload_n 0, 1) := by decide +kernel
theorem dX6_init_71 : decode cX6_init 71 = .ok (.new 47, 3) := by decide +kernel
theorem dX6_init_74 : decode cX6_init 74 = .ok (.dup, 1) := by decide +kernel
theorem dX6_init_75 : decode cX6_init 75 = .ok (.invokespecial 49, 3) := by decide +kernel
theorem dX6_init_78 : decode cX6_init 78 = .ok (.putfield 50, 3) := by decide +kernel
theorem dX6_init_81 : decode cX6_init 81 = .ok (.aload_n 0, 1) := by decide +kernel
theorem dX6_init_82 : decode cX6_init 82 = .ok (.iconst 2, 1) := by decide +kernel
theorem dX6_init_83 : decode cX6_init 83 = .ok (.anewarray 16, 3) := by decide +kernel
theorem dX6_init_86 : decode cX6_init 86 = .ok (.putfield 54, 3) := by decide +kernel
theorem dX6_init_89 : decode cX6_init 89 = .ok (.aload_n 0, 1) := by decide +kernel
theorem dX6_init_90 : decode cX6_init 90 = .ok (.bipush 16, 2) := by decide +kernel
theorem dX6_init_92 : decode cX6_init 92 = .ok (.newarray .int, 2) := by decide +kernel
theorem dX6_init_94 : decode cX6_init 94 = .ok (.putfield 58, 3) := by decide +kernel
theorem dX6_init_97 : decode cX6_init 97 = .ok (.aload_n 0, 1) := by decide +kernel
theorem dX6_init_98 : decode cX6_init 98 = .ok (.iconst 0, 1) := by decide +kernel
theorem dX6_init_99 : decode cX6_init 99 = .ok (.putfield 62, 3) := by decide +kernel
theorem dX6_init_102 : decode cX6_init 102 = .ok (.aload_n 0, 1) := by decide +kernel
theorem dX6_init_103 : decode cX6_init 103 = .ok (.lconst 0, 1) := by decide +kernel
theorem dX6_init_104 : decode cX6_init 104 = .ok (.putfield 66, 3) := by decide +kernel
theorem dX6_init_107 : decode cX6_init 107 = .ok (.iconst 0, 1) := by decide +kernel
theorem dX6_init_108 : decode cX6_init 108 = .ok (.istore_n 1, 1) := by decide +kernel
theorem dX6_init_109 : decode cX6_init 109 = .ok (.iload_n 1, 1) := by decide +kernel
theorem dX6_init_110 : decode cX6_init 110 = .ok (.iconst 2, 1) := by decide +kernel
theorem dX6_init_111 : decode cX6_init 111 = .ok (.if_icmp .ge 22, 3) := by decide +kernel
theorem dX6_init_114 : decode cX6_init 114 = .ok (.aload_n 0, 1) := by decide +kernel
theorem dX6_init_115 : decode cX6_init 115 = .ok (.getfield 54, 3) := by decide +kernel
theorem dX6_init_118 : decode cX6_init 118 = .ok (.iload_n 1, 1) := by decide +kernel
theorem dX6_init_119 : decode cX6_init 119 = .ok (.new 16, 3) := by decide +kernel
theorem dX6_init_122 : decode cX6_init 122 = .ok (.dup, 1) := by decide +kernel
theorem dX6_init_123 : decode cX6_init 123 = .ok (.invokespecial 18, 3) := by decide +kernel
theorem dX6_init_126 : decode cX6_init 126 = .ok (.aastore, 1) := by decide +kernel
theorem dX6_init_127 : decode cX6_init 127 = .ok (.iinc 1 1, 3) := by decide +kernel
theorem dX6_init_130 : decode cX6_init 130 = .ok (.goto (-21), 3) := by decide +kernel
theorem dX6_init_133 : decode cX6_init 133 = .ok (.return_, 1) := by decide +kernel
theorem dX6_write_0 : decode cX6_write 0 = .ok (.iload_n 1, 1) := by decide +kernel
theorem dX6_write_1 : decode cX6_write 1 = .ok (.ifCond .lt 10, 3) := by decide +kernel
theorem dX6_write_4 : decode cX6_write 4 = .ok (.iload_n 1, 1) := by decide +kernel
theorem dX6_write_5 : decode cX6_write 5 = .ok (.sipush 255, 3) := by decide +kernel
theorem dX6_write_8 : decode cX6_write 8 = .ok (.if_icmp .le 6, 3) := by decide +kernel
theorem dX6_write_11 : decode cX6_write 11 = .ok (.bipush (-2), 2) := by decide +kernel
theorem dX6_write_13 : decode cX6_write 13 = .ok (.ireturn, 1) := by decide +kernel
theorem dX6_write_14 : decode cX6_write 14 = .ok (.aload_n 0, 1) := by decide +kernel
theorem dX6_write_15 : decode cX6_write 15 = .ok (.getfield 12, 3) := by decide +kernel
theorem dX6_write_18 : decode cX6_write 18 = .ok (.iload_n 1, 1) := by decide +kernel
theorem dX6_write_19 : decode cX6_write 19 = .ok (.invokevirtual 70, 3) := by decide +kernel
theorem dX6_write_22 : decode cX6_write 22 = .ok (.ifCond .eq 13, 3) := by decide +kernel
theorem dX6_write_25 : decode cX6_write 25 = .ok (.aload_n 0, 1) := by decide +kernel
theorem dX6_write_26 : decode cX6_write 26 = .ok (.getfield 12, 3) := by decide +kernel
theorem dX6_write_29 : decode cX6_write 29 = .ok (.getfield 74, 3) := by decide +kernel
theorem dX6_write_32 : decode cX6_write 32 = .ok (.goto 5, 3) := by decide +kernel
theorem dX6_write_35 : decode cX6_write 35 = .ok (.bipush (-4), 2) := by decide +kernel
theorem dX6_write_37 : decode cX6_write 37 = .ok (.ireturn, 1) := by decide +kernel
theorem dX6_wipe_0 : decode cX6_wipe 0 = .ok (.aload_n 0, 1) := by decide +kernel
theorem dX6_wipe_1 : decode cX6_wipe 1 = .ok (.getfield 12, 3) := by decide +kernel
theorem dX6_wipe_4 : decode cX6_wipe 4 = .ok (.getfield 74, 3) := by decide +kernel
theorem dX6_wipe_7 : decode cX6_wipe 7 = .ok (.istore_n 1, 1) := by decide +kernel
theorem dX6_wipe_8 : decode cX6_wipe 8 = .ok (.aload_n 0, 1) := by decide +kernel
theorem dX6_wipe_9 : decode cX6_wipe 9 = .ok (.getfield 12, 3) := by decide +kernel
theorem dX6_wipe_12 : decode cX6_wipe 12 = .ok (.iconst 0, 1) := by decide +kernel
theorem dX6_wipe_13 : decode cX6_wipe 13 = .ok (.putfield 74, 3) := by decide +kernel
theorem dX6_wipe_16 : decode cX6_wipe 16 = .ok (.iload_n 1, 1) := by decide +kernel
theorem dX6_wipe_17 : decode cX6_wipe 17 = .ok (.ireturn, 1) := by decide +kernel
theorem dX6_fault_0 : decode cX6_fault 0 = .ok (.aload_n 0, 1) := by decide +kernel
theorem dX6_fault_1 : decode cX6_fault 1 = .ok (.getfield 12, 3) := by decide +kernel
theorem dX6_fault_4 : decode cX6_fault 4 = .ok (.aload_n 0, 1) := by decide +kernel
theorem dX6_fault_5 : decode cX6_fault 5 = .ok (.getfield 23, 3) := by decide +kernel
theorem dX6_fault_8 : decode cX6_fault 8 = .ok (.invokevirtual 77, 3) := by decide +kernel
theorem dX6_fault_11 : decode cX6_fault 11 = .ok (.ireturn, 1) := by decide +kernel
theorem dX6_tender_0 : decode cX6_tender 0 = .ok (.aload_n 0, 1) := by decide +kernel
theorem dX6_tender_1 : decode cX6_tender 1 = .ok (.getfield 12, 3) := by decide +kernel
theorem dX6_tender_4 : decode cX6_tender 4 = .ok (.aload_n 0, 1) := by decide +kernel
theorem dX6_tender_5 : decode cX6_tender 5 = .ok (.getfield 23, 3) := by decide +kernel
theorem dX6_tender_8 : decode cX6_tender 8 = .ok (.invokevirtual 77, 3) := by decide +kernel
theorem dX6_tender_11 : decode cX6_tender 11 = .ok (.bipush (-9), 2) := by decide +kernel
theorem dX6_tender_13 : decode cX6_tender 13 = .ok (.if_icmp .eq 6, 3) := by decide +kernel
theorem dX6_tender_16 : decode cX6_tender 16 = .ok (.bipush (-3), 2) := by decide +kernel
theorem dX6_tender_18 : decode cX6_tender 18 = .ok (.ireturn, 1) := by decide +kernel
theorem dX6_tender_19 : decode cX6_tender 19 = .ok (.aload_n 0, 1) := by decide +kernel
theorem dX6_tender_20 : decode cX6_tender 20 = .ok (.getfield 23, 3) := by decide +kernel
theorem dX6_tender_23 : decode cX6_tender 23 = .ok (.aload_n 0, 1) := by decide +kernel
theorem dX6_tender_24 : decode cX6_tender 24 = .ok (.getfield 19, 3) := by decide +kernel
theorem dX6_tender_27 : decode cX6_tender 27 = .ok (.getfield 81, 3) := by decide +kernel
theorem dX6_tender_30 : decode cX6_tender 30 = .ok (.putfield 81, 3) := by decide +kernel
theorem dX6_tender_33 : decode cX6_tender 33 = .ok (.aload_n 0, 1) := by decide +kernel
theorem dX6_tender_34 : decode cX6_tender 34 = .ok (.getfield 19, 3) := by decide +kernel
theorem dX6_tender_37 : decode cX6_tender 37 = .ok (.aload_n 0, 1) := by decide +kernel
theorem dX6_tender_38 : decode cX6_tender 38 = .ok (.getfield 23, 3) := by decide +kernel
theorem dX6_tender_41 : decode cX6_tender 41 = .ok (.invokevirtual 84, 3) := by decide +kernel
theorem dX6_tender_44 : decode cX6_tender 44 = .ok (.aload_n 0, 1) := by decide +kernel
theorem dX6_tender_45 : decode cX6_tender 45 = .ok (.getfield 43, 3) := by decide +kernel
theorem dX6_tender_48 : decode cX6_tender 48 = .ok (.iconst 0, 1) := by decide +kernel
theorem dX6_tender_49 : decode cX6_tender 49 = .ok (.putfield 88, 3) := by decide +kernel
theorem dX6_tender_52 : decode cX6_tender 52 = .ok (.aload_n 0, 1) := by decide +kernel
theorem dX6_tender_53 : decode cX6_tender 53 = .ok (.iconst 0, 1) := by decide +kernel
theorem dX6_tender_54 : decode cX6_tender 54 = .ok (.putfield 62, 3) := by decide +kernel
theorem dX6_tender_57 : decode cX6_tender 57 = .ok (.aload_n 0, 1) := by decide +kernel
theorem dX6_tender_58 : decode cX6_tender 58 = .ok (.getfield 19, 3) := by decide +kernel
theorem dX6_tender_61 : decode cX6_tender 61 = .ok (.getfield 91, 3) := by decide +kernel
theorem dX6_tender_64 : decode cX6_tender 64 = .ok (.ireturn, 1) := by decide +kernel
theorem dX6_about_0 : decode cX6_about 0 = .ok (.iload_n 1, 1) := by decide +kernel
theorem dX6_about_1 : decode cX6_about 1 = .ok (.tableswitch 143 0 8 #[51, 59, 67, 75, 91, 107, 119, 127, 135], 51) := by decide +kernel
theorem dX6_about_52 : decode cX6_about 52 = .ok (.aload_n 0, 1) := by decide +kernel
theorem dX6_about_53 : decode cX6_about 53 = .ok (.getfield 19, 3) := by decide +kernel
theorem dX6_about_56 : decode cX6_about 56 = .ok (.getfield 94, 3) := by decide +kernel
theorem dX6_about_59 : decode cX6_about 59 = .ok (.ireturn, 1) := by decide +kernel
theorem dX6_about_60 : decode cX6_about 60 = .ok (.aload_n 0, 1) := by decide +kernel
theorem dX6_about_61 : decode cX6_about 61 = .ok (.getfield 19, 3) := by decide +kernel
theorem dX6_about_64 : decode cX6_about 64 = .ok (.getfield 91, 3) := by decide +kernel
theorem dX6_about_67 : decode cX6_about 67 = .ok (.ireturn, 1) := by decide +kernel
theorem dX6_about_68 : decode cX6_about 68 = .ok (.aload_n 0, 1) := by decide +kernel
theorem dX6_about_69 : decode cX6_about 69 = .ok (.getfield 19, 3) := by decide +kernel
theorem dX6_about_72 : decode cX6_about 72 = .ok (.getfield 81, 3) := by decide +kernel
theorem dX6_about_75 : decode cX6_about 75 = .ok (.ireturn, 1) := by decide +kernel
theorem dX6_about_76 : decode cX6_about 76 = .ok (.aload_n 0, 1) := by decide +kernel
theorem dX6_about_77 : decode cX6_about 77 = .ok (.aload_n 0, 1) := by decide +kernel
theorem dX6_about_78 : decode cX6_about 78 = .ok (.getfield 19, 3) := by decide +kernel
theorem dX6_about_81 : decode cX6_about 81 = .ok (.aload_n 0, 1) := by decide +kernel
theorem dX6_about_82 : decode cX6_about 82 = .ok (.getfield 19, 3) := by decide +kernel
theorem dX6_about_85 : decode cX6_about 85 = .ok (.invokevirtual 97, 3) := by decide +kernel
theorem dX6_about_88 : decode cX6_about 88 = .ok (.invokevirtual 101, 3) := by decide +kernel
theorem dX6_about_91 : decode cX6_about 91 = .ok (.ireturn, 1) := by decide +kernel
theorem dX6_about_92 : decode cX6_about 92 = .ok (.aload_n 0, 1) := by decide +kernel
theorem dX6_about_93 : decode cX6_about 93 = .ok (.aload_n 0, 1) := by decide +kernel
theorem dX6_about_94 : decode cX6_about 94 = .ok (.getfield 19, 3) := by decide +kernel
theorem dX6_about_97 : decode cX6_about 97 = .ok (.aload_n 0, 1) := by decide +kernel
theorem dX6_about_98 : decode cX6_about 98 = .ok (.getfield 19, 3) := by decide +kernel
theorem dX6_about_101 : decode cX6_about 101 = .ok (.invokevirtual 97, 3) := by decide +kernel
theorem dX6_about_104 : decode cX6_about 104 = .ok (.invokevirtual 105, 3) := by decide +kernel
theorem dX6_about_107 : decode cX6_about 107 = .ok (.ireturn, 1) := by decide +kernel
theorem dX6_about_108 : decode cX6_about 108 = .ok (.aload_n 0, 1) := by decide +kernel
theorem dX6_about_109 : decode cX6_about 109 = .ok (.invokevirtual 108, 3) := by decide +kernel
theorem dX6_about_112 : decode cX6_about 112 = .ok (.aload_n 0, 1) := by decide +kernel
theorem dX6_about_113 : decode cX6_about 113 = .ok (.getfield 36, 3) := by decide +kernel
theorem dX6_about_116 : decode cX6_about 116 = .ok (.getfield 111, 3) := by decide +kernel
theorem dX6_about_119 : decode cX6_about 119 = .ok (.ireturn, 1) := by decide +kernel
theorem dX6_about_120 : decode cX6_about 120 = .ok (.aload_n 0, 1) := by decide +kernel
theorem dX6_about_121 : decode cX6_about 121 = .ok (.getfield 43, 3) := by decide +kernel
theorem dX6_about_124 : decode cX6_about 124 = .ok (.getfield 88, 3) := by decide +kernel
theorem dX6_about_127 : decode cX6_about 127 = .ok (.ireturn, 1) := by decide +kernel
theorem dX6_about_128 : decode cX6_about 128 = .ok (.aload_n 0, 1) := by decide +kernel
theorem dX6_about_129 : decode cX6_about 129 = .ok (.getfield 50, 3) := by decide +kernel
theorem dX6_about_132 : decode cX6_about 132 = .ok (.getfield 114, 3) := by decide +kernel
theorem dX6_about_135 : decode cX6_about 135 = .ok (.ireturn, 1) := by decide +kernel
theorem dX6_about_136 : decode cX6_about 136 = .ok (.aload_n 0, 1) := by decide +kernel
theorem dX6_about_137 : decode cX6_about 137 = .ok (.getfield 12, 3) := by decide +kernel
theorem dX6_about_140 : decode cX6_about 140 = .ok (.getfield 74, 3) := by decide +kernel
theorem dX6_about_143 : decode cX6_about 143 = .ok (.ireturn, 1) := by decide +kernel
theorem dX6_about_144 : decode cX6_about 144 = .ok (.bipush (-2), 2) := by decide +kernel
theorem dX6_about_146 : decode cX6_about 146 = .ok (.ireturn, 1) := by decide +kernel
theorem dX6_field_0 : decode cX6_field 0 = .ok (.aload_n 0, 1) := by decide +kernel
theorem dX6_field_1 : decode cX6_field 1 = .ok (.getfield 19, 3) := by decide +kernel
theorem dX6_field_4 : decode cX6_field 4 = .ok (.iload_n 1, 1) := by decide +kernel
theorem dX6_field_5 : decode cX6_field 5 = .ok (.invokevirtual 115, 3) := by decide +kernel
theorem dX6_field_8 : decode cX6_field 8 = .ok (.ifCond .ne 5, 3) := by decide +kernel
theorem dX6_field_11 : decode cX6_field 11 = .ok (.iconst (-1), 1) := by decide +kernel
theorem dX6_field_12 : decode cX6_field 12 = .ok (.ireturn, 1) := by decide +kernel
theorem dX6_field_13 : decode cX6_field 13 = .ok (.iload_n 2, 1) := by decide +kernel
theorem dX6_field_14 : decode cX6_field 14 = .ok (.tableswitch 81 0 2 #[26, 36, 46], 26) := by decide +kernel
theorem dX6_field_40 : decode cX6_field 40 = .ok (.aload_n 0, 1) := by decide +kernel
theorem dX6_field_41 : decode cX6_field 41 = .ok (.getfield 19, 3) := by decide +kernel
theorem dX6_field_44 : decode cX6_field 44 = .ok (.getfield 118, 3) := by decide +kernel
theorem dX6_field_47 : decode cX6_field 47 = .ok (.iload_n 1, 1) := by decide +kernel
theorem dX6_field_48 : decode cX6_field 48 = .ok (.iaload, 1) := by decide +kernel
theorem dX6_field_49 : decode cX6_field 49 = .ok (.ireturn, 1) := by decide +kernel
theorem dX6_field_50 : decode cX6_field 50 = .ok (.aload_n 0, 1) := by decide +kernel
theorem dX6_field_51 : decode cX6_field 51 = .ok (.getfield 19, 3) := by decide +kernel
theorem dX6_field_54 : decode cX6_field 54 = .ok (.getfield 121, 3) := by decide +kernel
theorem dX6_field_57 : decode cX6_field 57 = .ok (.iload_n 1, 1) := by decide +kernel
theorem dX6_field_58 : decode cX6_field 58 = .ok (.iaload, 1) := by decide +kernel
theorem dX6_field_59 : decode cX6_field 59 = .ok (.ireturn, 1) := by decide +kernel
theorem dX6_field_60 : decode cX6_field 60 = .ok (.aload_n 0, 1) := by decide +kernel
theorem dX6_field_61 : decode cX6_field 61 = .ok (.aload_n 0, 1) := by decide +kernel
theorem dX6_field_62 : decode cX6_field 62 = .ok (.getfield 19, 3) := by decide +kernel
theorem dX6_field_65 : decode cX6_field 65 = .ok (.aload_n 0, 1) := by decide +kernel
theorem dX6_field_66 : decode cX6_field 66 = .ok (.getfield 19, 3) := by decide +kernel
theorem dX6_field_69 : decode cX6_field 69 = .ok (.invokevirtual 97, 3) := by decide +kernel
theorem dX6_field_72 : decode cX6_field 72 = .ok (.invokevirtual 101, 3) := by decide +kernel
theorem dX6_field_75 : decode cX6_field 75 = .ok (.bipush (-9), 2) := by decide +kernel
theorem dX6_field_77 : decode cX6_field 77 = .ok (.if_icmp .ne 8, 3) := by decide +kernel
theorem dX6_field_80 : decode cX6_field 80 = .ok (.bipush (-9), 2) := by decide +kernel
theorem dX6_field_82 : decode cX6_field 82 = .ok (.goto 12, 3) := by decide +kernel
theorem dX6_field_85 : decode cX6_field 85 = .ok (.aload_n 0, 1) := by decide +kernel
theorem dX6_field_86 : decode cX6_field 86 = .ok (.getfield 29, 3) := by decide +kernel
theorem dX6_field_89 : decode cX6_field 89 = .ok (.getfield 124, 3) := by decide +kernel
theorem dX6_field_92 : decode cX6_field 92 = .ok (.iload_n 1, 1) := by decide +kernel
theorem dX6_field_93 : decode cX6_field 93 = .ok (.iaload, 1) := by decide +kernel
theorem dX6_field_94 : decode cX6_field 94 = .ok (.ireturn, 1) := by decide +kernel
theorem dX6_field_95 : decode cX6_field 95 = .ok (.bipush (-2), 2) := by decide +kernel
theorem dX6_field_97 : decode cX6_field 97 = .ok (.ireturn, 1) := by decide +kernel
theorem dX6_maker_0 : decode cX6_maker 0 = .ok (.aload_n 0, 1) := by decide +kernel
theorem dX6_maker_1 : decode cX6_maker 1 = .ok (.getfield 19, 3) := by decide +kernel
theorem dX6_maker_4 : decode cX6_maker 4 = .ok (.iload_n 1, 1) := by decide +kernel
theorem dX6_maker_5 : decode cX6_maker 5 = .ok (.invokevirtual 127, 3) := by decide +kernel
theorem dX6_maker_8 : decode cX6_maker 8 = .ok (.ifCond .ne 5, 3) := by decide +kernel
theorem dX6_maker_11 : decode cX6_maker 11 = .ok (.iconst (-1), 1) := by decide +kernel
theorem dX6_maker_12 : decode cX6_maker 12 = .ok (.ireturn, 1) := by decide +kernel
theorem dX6_maker_13 : decode cX6_maker 13 = .ok (.iload_n 2, 1) := by decide +kernel
theorem dX6_maker_14 : decode cX6_maker 14 = .ok (.tableswitch 84 0 4 #[34, 44, 54, 64, 74], 34) := by decide +kernel
theorem dX6_maker_48 : decode cX6_maker 48 = .ok (.aload_n 0, 1) := by decide +kernel
theorem dX6_maker_49 : decode cX6_maker 49 = .ok (.getfield 19, 3) := by decide +kernel
theorem dX6_maker_52 : decode cX6_maker 52 = .ok (.getfield 130, 3) := by decide +kernel
theorem dX6_maker_55 : decode cX6_maker 55 = .ok (.iload_n 1, 1) := by decide +kernel
theorem dX6_maker_56 : decode cX6_maker 56 = .ok (.iaload, 1) := by decide +kernel
theorem dX6_maker_57 : decode cX6_maker 57 = .ok (.ireturn, 1) := by decide +kernel
theorem dX6_maker_58 : decode cX6_maker 58 = .ok (.aload_n 0, 1) := by decide +kernel
theorem dX6_maker_59 : decode cX6_maker 59 = .ok (.getfield 19, 3) := by decide +kernel
theorem dX6_maker_62 : decode cX6_maker 62 = .ok (.getfield 133, 3) := by decide +kernel
theorem dX6_maker_65 : decode cX6_maker 65 = .ok (.iload_n 1, 1) := by decide +kernel
theorem dX6_maker_66 : decode cX6_maker 66 = .ok (.iaload, 1) := by decide +kernel
theorem dX6_maker_67 : decode cX6_maker 67 = .ok (.ireturn, 1) := by decide +kernel
theorem dX6_maker_68 : decode cX6_maker 68 = .ok (.aload_n 0, 1) := by decide +kernel
theorem dX6_maker_69 : decode cX6_maker 69 = .ok (.getfield 19, 3) := by decide +kernel
theorem dX6_maker_72 : decode cX6_maker 72 = .ok (.getfield 136, 3) := by decide +kernel
theorem dX6_maker_75 : decode cX6_maker 75 = .ok (.iload_n 1, 1) := by decide +kernel
theorem dX6_maker_76 : decode cX6_maker 76 = .ok (.iaload, 1) := by decide +kernel
theorem dX6_maker_77 : decode cX6_maker 77 = .ok (.ireturn, 1) := by decide +kernel
theorem dX6_maker_78 : decode cX6_maker 78 = .ok (.aload_n 0, 1) := by decide +kernel
theorem dX6_maker_79 : decode cX6_maker 79 = .ok (.aload_n 0, 1) := by decide +kernel
theorem dX6_maker_80 : decode cX6_maker 80 = .ok (.getfield 19, 3) := by decide +kernel
theorem dX6_maker_83 : decode cX6_maker 83 = .ok (.iload_n 1, 1) := by decide +kernel
theorem dX6_maker_84 : decode cX6_maker 84 = .ok (.invokevirtual 139, 3) := by decide +kernel
theorem dX6_maker_87 : decode cX6_maker 87 = .ok (.ireturn, 1) := by decide +kernel
theorem dX6_maker_88 : decode cX6_maker 88 = .ok (.aload_n 0, 1) := by decide +kernel
theorem dX6_maker_89 : decode cX6_maker 89 = .ok (.aload_n 0, 1) := by decide +kernel
theorem dX6_maker_90 : decode cX6_maker 90 = .ok (.getfield 19, 3) := by decide +kernel
theorem dX6_maker_93 : decode cX6_maker 93 = .ok (.iload_n 1, 1) := by decide +kernel
theorem dX6_maker_94 : decode cX6_maker 94 = .ok (.invokevirtual 142, 3) := by decide +kernel
theorem dX6_maker_97 : decode cX6_maker 97 = .ok (.ireturn, 1) := by decide +kernel
theorem dX6_maker_98 : decode cX6_maker 98 = .ok (.bipush (-2), 2) := by decide +kernel
theorem dX6_maker_100 : decode cX6_maker 100 = .ok (.ireturn, 1) := by decide +kernel
theorem dX6_reprice_0 : decode cX6_reprice 0 = .ok (.aload_n 0, 1) := by decide +kernel
theorem dX6_reprice_1 : decode cX6_reprice 1 = .ok (.iconst 1, 1) := by decide +kernel
theorem dX6_reprice_2 : decode cX6_reprice 2 = .ok (.iload_n 1, 1) := by decide +kernel
theorem dX6_reprice_3 : decode cX6_reprice 3 = .ok (.iload_n 2, 1) := by decide +kernel
theorem dX6_reprice_4 : decode cX6_reprice 4 = .ok (.invokevirtual 145, 3) := by decide +kernel
theorem dX6_reprice_7 : decode cX6_reprice 7 = .ok (.ireturn, 1) := by decide +kernel
theorem dX6_restock_0 : decode cX6_restock 0 = .ok (.aload_n 0, 1) := by decide +kernel
theorem dX6_restock_1 : decode cX6_restock 1 = .ok (.iconst 2, 1) := by decide +kernel
theorem dX6_restock_2 : decode cX6_restock 2 = .ok (.iload_n 1, 1) := by decide +kernel
theorem dX6_restock_3 : decode cX6_restock 3 = .ok (.iload_n 2, 1) := by decide +kernel
theorem dX6_restock_4 : decode cX6_restock 4 = .ok (.invokevirtual 145, 3) := by decide +kernel
theorem dX6_restock_7 : decode cX6_restock 7 = .ok (.ireturn, 1) := by decide +kernel
theorem dX6_want_0 : decode cX6_want 0 = .ok (.aload_n 0, 1) := by decide +kernel
theorem dX6_want_1 : decode cX6_want 1 = .ok (.iconst 3, 1) := by decide +kernel
theorem dX6_want_2 : decode cX6_want 2 = .ok (.iload_n 1, 1) := by decide +kernel
theorem dX6_want_3 : decode cX6_want 3 = .ok (.iload_n 2, 1) := by decide +kernel
theorem dX6_want_4 : decode cX6_want 4 = .ok (.invokevirtual 145, 3) := by decide +kernel
theorem dX6_want_7 : decode cX6_want 7 = .ok (.ireturn, 1) := by decide +kernel
theorem dX6_bear_0 : decode cX6_bear 0 = .ok (.aload_n 0, 1) := by decide +kernel
theorem dX6_bear_1 : decode cX6_bear 1 = .ok (.iconst 4, 1) := by decide +kernel
theorem dX6_bear_2 : decode cX6_bear 2 = .ok (.iconst 0, 1) := by decide +kernel
theorem dX6_bear_3 : decode cX6_bear 3 = .ok (.iload_n 1, 1) := by decide +kernel
theorem dX6_bear_4 : decode cX6_bear 4 = .ok (.invokevirtual 145, 3) := by decide +kernel
theorem dX6_bear_7 : decode cX6_bear 7 = .ok (.ireturn, 1) := by decide +kernel
theorem dX6_undo_0 : decode cX6_undo 0 = .ok (.aload_n 0, 1) := by decide +kernel
theorem dX6_undo_1 : decode cX6_undo 1 = .ok (.getfield 43, 3) := by decide +kernel
theorem dX6_undo_4 : decode cX6_undo 4 = .ok (.getfield 88, 3) := by decide +kernel
theorem dX6_undo_7 : decode cX6_undo 7 = .ok (.ifCond .gt 6, 3) := by decide +kernel
theorem dX6_undo_10 : decode cX6_undo 10 = .ok (.bipush (-3), 2) := by decide +kernel
theorem dX6_undo_12 : decode cX6_undo 12 = .ok (.ireturn, 1) := by decide +kernel
theorem dX6_undo_13 : decode cX6_undo 13 = .ok (.aload_n 0, 1) := by decide +kernel
theorem dX6_undo_14 : decode cX6_undo 14 = .ok (.getfield 43, 3) := by decide +kernel
theorem dX6_undo_17 : decode cX6_undo 17 = .ok (.dup, 1) := by decide +kernel
theorem dX6_undo_18 : decode cX6_undo 18 = .ok (.getfield 88, 3) := by decide +kernel
theorem dX6_undo_21 : decode cX6_undo 21 = .ok (.iconst 1, 1) := by decide +kernel
theorem dX6_undo_22 : decode cX6_undo 22 = .ok (.isub, 1) := by decide +kernel
theorem dX6_undo_23 : decode cX6_undo 23 = .ok (.putfield 88, 3) := by decide +kernel
theorem dX6_undo_26 : decode cX6_undo 26 = .ok (.aload_n 0, 1) := by decide +kernel
theorem dX6_undo_27 : decode cX6_undo 27 = .ok (.getfield 43, 3) := by decide +kernel
theorem dX6_undo_30 : decode cX6_undo 30 = .ok (.getfield 88, 3) := by decide +kernel
theorem dX6_undo_33 : decode cX6_undo 33 = .ok (.istore_n 1, 1) := by decide +kernel
theorem dX6_undo_34 : decode cX6_undo 34 = .ok (.aload_n 0, 1) := by decide +kernel
theorem dX6_undo_35 : decode cX6_undo 35 = .ok (.getfield 19, 3) := by decide +kernel
theorem dX6_undo_38 : decode cX6_undo 38 = .ok (.aload_n 0, 1) := by decide +kernel
theorem dX6_undo_39 : decode cX6_undo 39 = .ok (.getfield 43, 3) := by decide +kernel
theorem dX6_undo_42 : decode cX6_undo 42 = .ok (.getfield 149, 3) := by decide +kernel
theorem dX6_undo_45 : decode cX6_undo 45 = .ok (.iload_n 1, 1) := by decide +kernel
theorem dX6_undo_46 : decode cX6_undo 46 = .ok (.iaload, 1) := by decide +kernel
theorem dX6_undo_47 : decode cX6_undo 47 = .ok (.aload_n 0, 1) := by decide +kernel
theorem dX6_undo_48 : decode cX6_undo 48 = .ok (.getfield 43, 3) := by decide +kernel
theorem dX6_undo_51 : decode cX6_undo 51 = .ok (.getfield 152, 3) := by decide +kernel
theorem dX6_undo_54 : decode cX6_undo 54 = .ok (.iload_n 1, 1) := by decide +kernel
theorem dX6_undo_55 : decode cX6_undo 55 = .ok (.iaload, 1) := by decide +kernel
theorem dX6_undo_56 : decode cX6_undo 56 = .ok (.aload_n 0, 1) := by decide +kernel
theorem dX6_undo_57 : decode cX6_undo 57 = .ok (.getfield 43, 3) := by decide +kernel
theorem dX6_undo_60 : decode cX6_undo 60 = .ok (.getfield 155, 3) := by decide +kernel
theorem dX6_undo_63 : decode cX6_undo 63 = .ok (.iload_n 1, 1) := by decide +kernel
theorem dX6_undo_64 : decode cX6_undo 64 = .ok (.iaload, 1) := by decide +kernel
theorem dX6_undo_65 : decode cX6_undo 65 = .ok (.invokevirtual 158, 3) := by decide +kernel
theorem dX6_undo_68 : decode cX6_undo 68 = .ok (.pop, 1) := by decide +kernel
theorem dX6_undo_69 : decode cX6_undo 69 = .ok (.aload_n 0, 1) := by decide +kernel
theorem dX6_undo_70 : decode cX6_undo 70 = .ok (.getfield 43, 3) := by decide +kernel
theorem dX6_undo_73 : decode cX6_undo 73 = .ok (.getfield 88, 3) := by decide +kernel
theorem dX6_undo_76 : decode cX6_undo 76 = .ok (.ireturn, 1) := by decide +kernel
theorem dX6_doNow_0 : decode cX6_doNow 0 = .ok (.aload_n 0, 1) := by decide +kernel
theorem dX6_doNow_1 : decode cX6_doNow 1 = .ok (.getfield 19, 3) := by decide +kernel
theorem dX6_doNow_4 : decode cX6_doNow 4 = .ok (.iload_n 1, 1) := by decide +kernel
theorem dX6_doNow_5 : decode cX6_doNow 5 = .ok (.iload_n 2, 1) := by decide +kernel
theorem dX6_doNow_6 : decode cX6_doNow 6 = .ok (.iload_n 3, 1) := by decide +kernel
theorem dX6_doNow_7 : decode cX6_doNow 7 = .ok (.invokevirtual 161, 3) := by decide +kernel
theorem dX6_doNow_10 : decode cX6_doNow 10 = .ok (.istore 4, 2) := by decide +kernel
theorem dX6_doNow_12 : decode cX6_doNow 12 = .ok (.iload 4, 2) := by decide +kernel
theorem dX6_doNow_14 : decode cX6_doNow 14 = .ok (.ifCond .eq 6, 3) := by decide +kernel
theorem dX6_doNow_17 : decode cX6_doNow 17 = .ok (.iload 4, 2) := by decide +kernel
theorem dX6_doNow_19 : decode cX6_doNow 19 = .ok (.ireturn, 1) := by decide +kernel
theorem dX6_doNow_20 : decode cX6_doNow 20 = .ok (.aload_n 0, 1) := by decide +kernel
theorem dX6_doNow_21 : decode cX6_doNow 21 = .ok (.getfield 19, 3) := by decide +kernel
theorem dX6_doNow_24 : decode cX6_doNow 24 = .ok (.iload_n 1, 1) := by decide +kernel
theorem dX6_doNow_25 : decode cX6_doNow 25 = .ok (.iload_n 2, 1) := by decide +kernel
theorem dX6_doNow_26 : decode cX6_doNow 26 = .ok (.iload_n 3, 1) := by decide +kernel
theorem dX6_doNow_27 : decode cX6_doNow 27 = .ok (.invokevirtual 158, 3) := by decide +kernel
theorem dX6_doNow_30 : decode cX6_doNow 30 = .ok (.istore 5, 2) := by decide +kernel
theorem dX6_doNow_32 : decode cX6_doNow 32 = .ok (.aload_n 0, 1) := by decide +kernel
theorem dX6_doNow_33 : decode cX6_doNow 33 = .ok (.getfield 43, 3) := by decide +kernel
theorem dX6_doNow_36 : decode cX6_doNow 36 = .ok (.iload_n 1, 1) := by decide +kernel
theorem dX6_doNow_37 : decode cX6_doNow 37 = .ok (.iload_n 2, 1) := by decide +kernel
theorem dX6_doNow_38 : decode cX6_doNow 38 = .ok (.iload 5, 2) := by decide +kernel
theorem dX6_doNow_40 : decode cX6_doNow 40 = .ok (.invokevirtual 164, 3) := by decide +kernel
theorem dX6_doNow_43 : decode cX6_doNow 43 = .ok (.iload 5, 2) := by decide +kernel
theorem dX6_doNow_45 : decode cX6_doNow 45 = .ok (.ireturn, 1) := by decide +kernel
theorem dX6_best_0 : decode cX6_best 0 = .ok (.aload_n 0, 1) := by decide +kernel
theorem dX6_best_1 : decode cX6_best 1 = .ok (.aload_n 0, 1) := by decide +kernel
theorem dX6_best_2 : decode cX6_best 2 = .ok (.getfield 19, 3) := by decide +kernel
theorem dX6_best_5 : decode cX6_best 5 = .ok (.aload_n 0, 1) := by decide +kernel
theorem dX6_best_6 : decode cX6_best 6 = .ok (.getfield 19, 3) := by decide +kernel
theorem dX6_best_9 : decode cX6_best 9 = .ok (.invokevirtual 97, 3) := by decide +kernel
theorem dX6_best_12 : decode cX6_best 12 = .ok (.invokevirtual 101, 3) := by decide +kernel
theorem dX6_best_15 : decode cX6_best 15 = .ok (.bipush (-9), 2) := by decide +kernel
theorem dX6_best_17 : decode cX6_best 17 = .ok (.if_icmp .ne 6, 3) := by decide +kernel
theorem dX6_best_20 : decode cX6_best 20 = .ok (.bipush (-9), 2) := by decide +kernel
theorem dX6_best_22 : decode cX6_best 22 = .ok (.ireturn, 1) := by decide +kernel
theorem dX6_best_23 : decode cX6_best 23 = .ok (.aload_n 0, 1) := by decide +kernel
theorem dX6_best_24 : decode cX6_best 24 = .ok (.getfield 29, 3) := by decide +kernel
theorem dX6_best_27 : decode cX6_best 27 = .ok (.getfield 124, 3) := by decide +kernel
theorem dX6_best_30 : decode cX6_best 30 = .ok (.aload_n 0, 1) := by decide +kernel
theorem dX6_best_31 : decode cX6_best 31 = .ok (.getfield 19, 3) := by decide +kernel
theorem dX6_best_34 : decode cX6_best 34 = .ok (.getfield 94, 3) := by decide +kernel
theorem dX6_best_37 : decode cX6_best 37 = .ok (.invokestatic 168, 3) := by decide +kernel
theorem dX6_best_40 : decode cX6_best 40 = .ok (.ireturn, 1) := by decide +kernel
theorem dX6_cost_0 : decode cX6_cost 0 = .ok (.aload_n 0, 1) := by decide +kernel
theorem dX6_cost_1 : decode cX6_cost 1 = .ok (.iload_n 1, 1) := by decide +kernel
theorem dX6_cost_2 : decode cX6_cost 2 = .ok (.i2l, 1) := by decide +kernel
theorem dX6_cost_3 : decode cX6_cost 3 = .ok (.aload_n 0, 1) := by decide +kernel
theorem dX6_cost_4 : decode cX6_cost 4 = .ok (.getfield 19, 3) := by decide +kernel
theorem dX6_cost_7 : decode cX6_cost 7 = .ok (.getfield 94, 3) := by decide +kernel
theorem dX6_cost_10 : decode cX6_cost 10 = .ok (.invokevirtual 172, 3) := by decide +kernel
theorem dX6_cost_13 : decode cX6_cost 13 = .ok (.ifCond .ne 6, 3) := by decide +kernel
theorem dX6_cost_16 : decode cX6_cost 16 = .ok (.bipush (-2), 2) := by decide +kernel
theorem dX6_cost_18 : decode cX6_cost 18 = .ok (.ireturn, 1) := by decide +kernel
theorem dX6_cost_19 : decode cX6_cost 19 = .ok (.aload_n 0, 1) := by decide +kernel
theorem dX6_cost_20 : decode cX6_cost 20 = .ok (.getfield 29, 3) := by decide +kernel
theorem dX6_cost_23 : decode cX6_cost 23 = .ok (.aload_n 0, 1) := by decide +kernel
theorem dX6_cost_24 : decode cX6_cost 24 = .ok (.getfield 19, 3) := by decide +kernel
theorem dX6_cost_27 : decode cX6_cost 27 = .ok (.aload_n 0, 1) := by decide +kernel
theorem dX6_cost_28 : decode cX6_cost 28 = .ok (.getfield 19, 3) := by decide +kernel
theorem dX6_cost_31 : decode cX6_cost 31 = .ok (.invokevirtual 97, 3) := by decide +kernel
theorem dX6_cost_34 : decode cX6_cost 34 = .ok (.invokevirtual 176, 3) := by decide +kernel
theorem dX6_cost_37 : decode cX6_cost 37 = .ok (.iconst 0, 1) := by decide +kernel
theorem dX6_cost_38 : decode cX6_cost 38 = .ok (.istore_n 2, 1) := by decide +kernel
theorem dX6_cost_39 : decode cX6_cost 39 = .ok (.iconst 0, 1) := by decide +kernel
theorem dX6_cost_40 : decode cX6_cost 40 = .ok (.istore_n 3, 1) := by decide +kernel
theorem dX6_cost_41 : decode cX6_cost 41 = .ok (.iconst 0, 1) := by decide +kernel
theorem dX6_cost_42 : decode cX6_cost 42 = .ok (.istore 4, 2) := by decide +kernel
theorem dX6_cost_44 : decode cX6_cost 44 = .ok (.iload 4, 2) := by decide +kernel
theorem dX6_cost_46 : decode cX6_cost 46 = .ok (.aload_n 0, 1) := by decide +kernel
theorem dX6_cost_47 : decode cX6_cost 47 = .ok (.getfield 19, 3) := by decide +kernel
theorem dX6_cost_50 : decode cX6_cost 50 = .ok (.getfield 94, 3) := by decide +kernel
theorem dX6_cost_53 : decode cX6_cost 53 = .ok (.if_icmp .ge 134, 3) := by decide +kernel
theorem dX6_cost_56 : decode cX6_cost 56 = .ok (.aload_n 0, 1) := by decide +kernel
theorem dX6_cost_57 : decode cX6_cost 57 = .ok (.getfield 58, 3) := by decide +kernel
theorem dX6_cost_60 : decode cX6_cost 60 = .ok (.iload 4, 2) := by decide +kernel
theorem dX6_cost_62 : decode cX6_cost 62 = .ok (.iaload, 1) := by decide +kernel
theorem dX6_cost_63 : decode cX6_cost 63 = .ok (.istore 5, 2) := by decide +kernel
theorem dX6_cost_65 : decode cX6_cost 65 = .ok (.iload 5, 2) := by decide +kernel
theorem dX6_cost_67 : decode cX6_cost 67 = .ok (.bipush 9, 2) := by decide +kernel
theorem dX6_cost_69 : decode cX6_cost 69 = .ok (.if_icmp .ne 32, 3) := by decide +kernel
theorem dX6_cost_72 : decode cX6_cost 72 = .ok (.iinc 3 1, 3) := by decide +kernel
theorem dX6_cost_75 : decode cX6_cost 75 = .ok (.iload_n 3, 1) := by decide +kernel
theorem dX6_cost_76 : decode cX6_cost 76 = .ok (.aload_n 0, 1) := by decide +kernel
theorem dX6_cost_77 : decode cX6_cost 77 = .ok (.getfield 19, 3) := by decide +kernel
theorem dX6_cost_80 : decode cX6_cost 80 = .ok (.getfield 81, 3) := by decide +kernel
theorem dX6_cost_83 : decode cX6_cost 83 = .ok (.if_icmp .gt 15, 3) := by decide +kernel
theorem dX6_cost_86 : decode cX6_cost 86 = .ok (.aload_n 0, 1) := by decide +kernel
theorem dX6_cost_87 : decode cX6_cost 87 = .ok (.getfield 19, 3) := by decide +kernel
theorem dX6_cost_90 : decode cX6_cost 90 = .ok (.iload 4, 2) := by decide +kernel
theorem dX6_cost_92 : decode cX6_cost 92 = .ok (.invokevirtual 180, 3) := by decide +kernel
theorem dX6_cost_95 : decode cX6_cost 95 = .ok (.ifCond .ne 86, 3) := by decide +kernel
theorem dX6_cost_98 : decode cX6_cost 98 = .ok (.bipush (-9), 2) := by decide +kernel
theorem dX6_cost_100 : decode cX6_cost 100 = .ok (.ireturn, 1) := by decide +kernel
theorem dX6_cost_101 : decode cX6_cost 101 = .ok (.aload_n 0, 1) := by decide +kernel
theorem dX6_cost_102 : decode cX6_cost 102 = .ok (.getfield 19, 3) := by decide +kernel
theorem dX6_cost_105 : decode cX6_cost 105 = .ok (.iload 5, 2) := by decide +kernel
theorem dX6_cost_107 : decode cX6_cost 107 = .ok (.invokevirtual 127, 3) := by decide +kernel
theorem dX6_cost_110 : decode cX6_cost 110 = .ok (.ifCond .eq 21, 3) := by decide +kernel
theorem dX6_cost_113 : decode cX6_cost 113 = .ok (.aload_n 0, 1) := by decide +kernel
theorem dX6_cost_114 : decode cX6_cost 114 = .ok (.getfield 29, 3) := by decide +kernel
theorem dX6_cost_117 : decode cX6_cost 117 = .ok (.aload_n 0, 1) := by decide +kernel
theorem dX6_cost_118 : decode cX6_cost 118 = .ok (.getfield 19, 3) := by decide +kernel
theorem dX6_cost_121 : decode cX6_cost 121 = .ok (.iload 5, 2) := by decide +kernel
theorem dX6_cost_123 : decode cX6_cost 123 = .ok (.iload 4, 2) := by decide +kernel
theorem dX6_cost_125 : decode cX6_cost 125 = .ok (.invokevirtual 183, 3) := by decide +kernel
theorem dX6_cost_128 : decode cX6_cost 128 = .ok (.ifCond .ne 6, 3) := by decide +kernel
theorem dX6_cost_131 : decode cX6_cost 131 = .ok (.bipush (-9), 2) := by decide +kernel
theorem dX6_cost_133 : decode cX6_cost 133 = .ok (.ireturn, 1) := by decide +kernel
theorem dX6_cost_134 : decode cX6_cost 134 = .ok (.aload_n 0, 1) := by decide +kernel
theorem dX6_cost_135 : decode cX6_cost 135 = .ok (.getfield 29, 3) := by decide +kernel
theorem dX6_cost_138 : decode cX6_cost 138 = .ok (.getfield 187, 3) := by decide +kernel
theorem dX6_cost_141 : decode cX6_cost 141 = .ok (.iload 5, 2) := by decide +kernel
theorem dX6_cost_143 : decode cX6_cost 143 = .ok (.dup2, 1) := by decide +kernel
theorem dX6_cost_144 : decode cX6_cost 144 = .ok (.iaload, 1) := by decide +kernel
theorem dX6_cost_145 : decode cX6_cost 145 = .ok (.aload_n 0, 1) := by decide +kernel
theorem dX6_cost_146 : decode cX6_cost 146 = .ok (.getfield 19, 3) := by decide +kernel
theorem dX6_cost_149 : decode cX6_cost 149 = .ok (.getfield 121, 3) := by decide +kernel
theorem dX6_cost_152 : decode cX6_cost 152 = .ok (.iload 4, 2) := by decide +kernel
theorem dX6_cost_154 : decode cX6_cost 154 = .ok (.iaload, 1) := by decide +kernel
theorem dX6_cost_155 : decode cX6_cost 155 = .ok (.isub, 1) := by decide +kernel
theorem dX6_cost_156 : decode cX6_cost 156 = .ok (.iastore, 1) := by decide +kernel
theorem dX6_cost_157 : decode cX6_cost 157 = .ok (.iload_n 2, 1) := by decide +kernel
theorem dX6_cost_158 : decode cX6_cost 158 = .ok (.aload_n 0, 1) := by decide +kernel
theorem dX6_cost_159 : decode cX6_cost 159 = .ok (.getfield 19, 3) := by decide +kernel
theorem dX6_cost_162 : decode cX6_cost 162 = .ok (.getfield 121, 3) := by decide +kernel
theorem dX6_cost_165 : decode cX6_cost 165 = .ok (.iload 4, 2) := by decide +kernel
theorem dX6_cost_167 : decode cX6_cost 167 = .ok (.iaload, 1) := by decide +kernel
theorem dX6_cost_168 : decode cX6_cost 168 = .ok (.aload_n 0, 1) := by decide +kernel
theorem dX6_cost_169 : decode cX6_cost 169 = .ok (.getfield 19, 3) := by decide +kernel
theorem dX6_cost_172 : decode cX6_cost 172 = .ok (.getfield 136, 3) := by decide +kernel
theorem dX6_cost_175 : decode cX6_cost 175 = .ok (.iload 5, 2) := by decide +kernel
theorem dX6_cost_177 : decode cX6_cost 177 = .ok (.iaload, 1) := by decide +kernel
theorem dX6_cost_178 : decode cX6_cost 178 = .ok (.imul, 1) := by decide +kernel
theorem dX6_cost_179 : decode cX6_cost 179 = .ok (.iadd, 1) := by decide +kernel
theorem dX6_cost_180 : decode cX6_cost 180 = .ok (.istore_n 2, 1) := by decide +kernel
theorem dX6_cost_181 : decode cX6_cost 181 = .ok (.iinc 4 1, 3) := by decide +kernel
theorem dX6_cost_184 : decode cX6_cost 184 = .ok (.goto (-140), 3) := by decide +kernel
theorem dX6_cost_187 : decode cX6_cost 187 = .ok (.iload_n 2, 1) := by decide +kernel
theorem dX6_cost_188 : decode cX6_cost 188 = .ok (.ireturn, 1) := by decide +kernel
theorem dX6_gain_0 : decode cX6_gain 0 = .ok (.aload_n 0, 1) := by decide +kernel
theorem dX6_gain_1 : decode cX6_gain 1 = .ok (.getfield 19, 3) := by decide +kernel
theorem dX6_gain_4 : decode cX6_gain 4 = .ok (.iconst 1, 1) := by decide +kernel
theorem dX6_gain_5 : decode cX6_gain 5 = .ok (.iload_n 1, 1) := by decide +kernel
theorem dX6_gain_6 : decode cX6_gain 6 = .ok (.iload_n 2, 1) := by decide +kernel
theorem dX6_gain_7 : decode cX6_gain 7 = .ok (.invokevirtual 161, 3) := by decide +kernel
theorem dX6_gain_10 : decode cX6_gain 10 = .ok (.istore_n 3, 1) := by decide +kernel
theorem dX6_gain_11 : decode cX6_gain 11 = .ok (.iload_n 3, 1) := by decide +kernel
theorem dX6_gain_12 : decode cX6_gain 12 = .ok (.ifCond .eq 5, 3) := by decide +kernel
theorem dX6_gain_15 : decode cX6_gain 15 = .ok (.iload_n 3, 1) := by decide +kernel
theorem dX6_gain_16 : decode cX6_gain 16 = .ok (.ireturn, 1) := by decide +kernel
theorem dX6_gain_17 : decode cX6_gain 17 = .ok (.aload_n 0, 1) := by decide +kernel
theorem dX6_gain_18 : decode cX6_gain 18 = .ok (.getfield 23, 3) := by decide +kernel
theorem dX6_gain_21 : decode cX6_gain 21 = .ok (.aload_n 0, 1) := by decide +kernel
theorem dX6_gain_22 : decode cX6_gain 22 = .ok (.getfield 19, 3) := by decide +kernel
theorem dX6_gain_25 : decode cX6_gain 25 = .ok (.invokevirtual 84, 3) := by decide +kernel
theorem dX6_gain_28 : decode cX6_gain 28 = .ok (.aload_n 0, 1) := by decide +kernel
theorem dX6_gain_29 : decode cX6_gain 29 = .ok (.getfield 23, 3) := by decide +kernel
theorem dX6_gain_32 : decode cX6_gain 32 = .ok (.iconst 1, 1) := by decide +kernel
theorem dX6_gain_33 : decode cX6_gain 33 = .ok (.iload_n 1, 1) := by decide +kernel
theorem dX6_gain_34 : decode cX6_gain 34 = .ok (.iload_n 2, 1) := by decide +kernel
theorem dX6_gain_35 : decode cX6_gain 35 = .ok (.invokevirtual 158, 3) := by decide +kernel
theorem dX6_gain_38 : decode cX6_gain 38 = .ok (.pop, 1) := by decide +kernel
theorem dX6_gain_39 : decode cX6_gain 39 = .ok (.aload_n 0, 1) := by decide +kernel
theorem dX6_gain_40 : decode cX6_gain 40 = .ok (.aload_n 0, 1) := by decide +kernel
theorem dX6_gain_41 : decode cX6_gain 41 = .ok (.getfield 23, 3) := by decide +kernel
theorem dX6_gain_44 : decode cX6_gain 44 = .ok (.iload_n 1, 1) := by decide +kernel
theorem dX6_gain_45 : decode cX6_gain 45 = .ok (.invokevirtual 142, 3) := by decide +kernel
theorem dX6_gain_48 : decode cX6_gain 48 = .ok (.istore 4, 2) := by decide +kernel
theorem dX6_gain_50 : decode cX6_gain 50 = .ok (.iload 4, 2) := by decide +kernel
theorem dX6_gain_52 : decode cX6_gain 52 = .ok (.bipush (-9), 2) := by decide +kernel
theorem dX6_gain_54 : decode cX6_gain 54 = .ok (.if_icmp .ne 6, 3) := by decide +kernel
theorem dX6_gain_57 : decode cX6_gain 57 = .ok (.bipush (-9), 2) := by decide +kernel
theorem dX6_gain_59 : decode cX6_gain 59 = .ok (.ireturn, 1) := by decide +kernel
theorem dX6_gain_60 : decode cX6_gain 60 = .ok (.iload 4, 2) := by decide +kernel
theorem dX6_gain_62 : decode cX6_gain 62 = .ok (.aload_n 0, 1) := by decide +kernel
theorem dX6_gain_63 : decode cX6_gain 63 = .ok (.aload_n 0, 1) := by decide +kernel
theorem dX6_gain_64 : decode cX6_gain 64 = .ok (.getfield 23, 3) := by decide +kernel
theorem dX6_gain_67 : decode cX6_gain 67 = .ok (.iload_n 1, 1) := by decide +kernel
theorem dX6_gain_68 : decode cX6_gain 68 = .ok (.invokevirtual 139, 3) := by decide +kernel
theorem dX6_gain_71 : decode cX6_gain 71 = .ok (.aload_n 0, 1) := by decide +kernel
theorem dX6_gain_72 : decode cX6_gain 72 = .ok (.getfield 19, 3) := by decide +kernel
theorem dX6_gain_75 : decode cX6_gain 75 = .ok (.getfield 136, 3) := by decide +kernel
theorem dX6_gain_78 : decode cX6_gain 78 = .ok (.iload_n 1, 1) := by decide +kernel
theorem dX6_gain_79 : decode cX6_gain 79 = .ok (.iaload, 1) := by decide +kernel
theorem dX6_gain_80 : decode cX6_gain 80 = .ok (.imul, 1) := by decide +kernel
theorem dX6_gain_81 : decode cX6_gain 81 = .ok (.isub, 1) := by decide +kernel
theorem dX6_gain_82 : decode cX6_gain 82 = .ok (.ireturn, 1) := by decide +kernel
theorem dX6_ran_0 : decode cX6_ran 0 = .ok (.iload_n 1, 1) := by decide +kernel
theorem dX6_ran_1 : decode cX6_ran 1 = .ok (.ifCond .lt 8, 3) := by decide +kernel
theorem dX6_ran_4 : decode cX6_ran 4 = .ok (.iload_n 1, 1) := by decide +kernel
theorem dX6_ran_5 : decode cX6_ran 5 = .ok (.iconst 2, 1) := by decide +kernel
theorem dX6_ran_6 : decode cX6_ran 6 = .ok (.if_icmp .le 6, 3) := by decide +kernel
theorem dX6_ran_9 : decode cX6_ran 9 = .ok (.bipush (-2), 2) := by decide +kernel
theorem dX6_ran_11 : decode cX6_ran 11 = .ok (.ireturn, 1) := by decide +kernel
theorem dX6_ran_12 : decode cX6_ran 12 = .ok (.aload_n 0, 1) := by decide +kernel
theorem dX6_ran_13 : decode cX6_ran 13 = .ok (.invokevirtual 108, 3) := by decide +kernel
theorem dX6_ran_16 : decode cX6_ran 16 = .ok (.iload_n 1, 1) := by decide +kernel
theorem dX6_ran_17 : decode cX6_ran 17 = .ok (.lookupswitch 43 #[(0, 27), (1, 35)], 27) := by decide +kernel
theorem dX6_ran_44 : decode cX6_ran 44 = .ok (.aload_n 0, 1) := by decide +kernel
theorem dX6_ran_45 : decode cX6_ran 45 = .ok (.getfield 36, 3) := by decide +kernel
theorem dX6_ran_48 : decode cX6_ran 48 = .ok (.getfield 190, 3) := by decide +kernel
theorem dX6_ran_51 : decode cX6_ran 51 = .ok (.ireturn, 1) := by decide +kernel
theorem dX6_ran_52 : decode cX6_ran 52 = .ok (.aload_n 0, 1) := by decide +kernel
theorem dX6_ran_53 : decode cX6_ran 53 = .ok (.getfield 36, 3) := by decide +kernel
theorem dX6_ran_56 : decode cX6_ran 56 = .ok (.getfield 193, 3) := by decide +kernel
theorem dX6_ran_59 : decode cX6_ran 59 = .ok (.ireturn, 1) := by decide +kernel
theorem dX6_ran_60 : decode cX6_ran 60 = .ok (.aload_n 0, 1) := by decide +kernel
theorem dX6_ran_61 : decode cX6_ran 61 = .ok (.getfield 23, 3) := by decide +kernel
theorem dX6_ran_64 : decode cX6_ran 64 = .ok (.getfield 133, 3) := by decide +kernel
theorem dX6_ran_67 : decode cX6_ran 67 = .ok (.aload_n 0, 1) := by decide +kernel
theorem dX6_ran_68 : decode cX6_ran 68 = .ok (.getfield 23, 3) := by decide +kernel
theorem dX6_ran_71 : decode cX6_ran 71 = .ok (.getfield 91, 3) := by decide +kernel
theorem dX6_ran_74 : decode cX6_ran 74 = .ok (.invokestatic 168, 3) := by decide +kernel
theorem dX6_ran_77 : decode cX6_ran 77 = .ok (.ireturn, 1) := by decide +kernel
theorem dX6_least_0 : decode cX6_least 0 = .ok (.aload_n 0, 1) := by decide +kernel
theorem dX6_least_1 : decode cX6_least 1 = .ok (.getfield 19, 3) := by decide +kernel
theorem dX6_least_4 : decode cX6_least 4 = .ok (.iload_n 1, 1) := by decide +kernel
theorem dX6_least_5 : decode cX6_least 5 = .ok (.invokevirtual 196, 3) := by decide +kernel
theorem dX6_least_8 : decode cX6_least 8 = .ok (.ifCond .eq 15, 3) := by decide +kernel
theorem dX6_least_11 : decode cX6_least 11 = .ok (.aload_n 0, 1) := by decide +kernel
theorem dX6_least_12 : decode cX6_least 12 = .ok (.aload_n 0, 1) := by decide +kernel
theorem dX6_least_13 : decode cX6_least 13 = .ok (.getfield 19, 3) := by decide +kernel
theorem dX6_least_16 : decode cX6_least 16 = .ok (.iload_n 1, 1) := by decide +kernel
theorem dX6_least_17 : decode cX6_least 17 = .ok (.invokevirtual 101, 3) := by decide +kernel
theorem dX6_least_20 : decode cX6_least 20 = .ok (.goto 5, 3) := by decide +kernel
theorem dX6_least_23 : decode cX6_least 23 = .ok (.bipush (-2), 2) := by decide +kernel
theorem dX6_least_25 : decode cX6_least 25 = .ok (.ireturn, 1) := by decide +kernel
theorem dX6_most_0 : decode cX6_most 0 = .ok (.aload_n 0, 1) := by decide +kernel
theorem dX6_most_1 : decode cX6_most 1 = .ok (.getfield 19, 3) := by decide +kernel
theorem dX6_most_4 : decode cX6_most 4 = .ok (.iload_n 1, 1) := by decide +kernel
theorem dX6_most_5 : decode cX6_most 5 = .ok (.invokevirtual 196, 3) := by decide +kernel
theorem dX6_most_8 : decode cX6_most 8 = .ok (.ifCond .eq 15, 3) := by decide +kernel
theorem dX6_most_11 : decode cX6_most 11 = .ok (.aload_n 0, 1) := by decide +kernel
theorem dX6_most_12 : decode cX6_most 12 = .ok (.aload_n 0, 1) := by decide +kernel
theorem dX6_most_13 : decode cX6_most 13 = .ok (.getfield 19, 3) := by decide +kernel
theorem dX6_most_16 : decode cX6_most 16 = .ok (.iload_n 1, 1) := by decide +kernel
theorem dX6_most_17 : decode cX6_most 17 = .ok (.invokevirtual 105, 3) := by decide +kernel
theorem dX6_most_20 : decode cX6_most 20 = .ok (.goto 5, 3) := by decide +kernel
theorem dX6_most_23 : decode cX6_most 23 = .ok (.bipush (-2), 2) := by decide +kernel
theorem dX6_most_25 : decode cX6_most 25 = .ok (.ireturn, 1) := by decide +kernel
theorem dX6_holds_0 : decode cX6_holds 0 = .ok (.aload_n 0, 1) := by decide +kernel
theorem dX6_holds_1 : decode cX6_holds 1 = .ok (.iload_n 1, 1) := by decide +kernel
theorem dX6_holds_2 : decode cX6_holds 2 = .ok (.i2l, 1) := by decide +kernel
theorem dX6_holds_3 : decode cX6_holds 3 = .ok (.aload_n 0, 1) := by decide +kernel
theorem dX6_holds_4 : decode cX6_holds 4 = .ok (.getfield 19, 3) := by decide +kernel
theorem dX6_holds_7 : decode cX6_holds 7 = .ok (.getfield 91, 3) := by decide +kernel
theorem dX6_holds_10 : decode cX6_holds 10 = .ok (.invokevirtual 172, 3) := by decide +kernel
theorem dX6_holds_13 : decode cX6_holds 13 = .ok (.ifCond .ne 6, 3) := by decide +kernel
theorem dX6_holds_16 : decode cX6_holds 16 = .ok (.bipush (-2), 2) := by decide +kernel
theorem dX6_holds_18 : decode cX6_holds 18 = .ok (.ireturn, 1) := by decide +kernel
theorem dX6_holds_19 : decode cX6_holds 19 = .ok (.aload_n 0, 1) := by decide +kernel
theorem dX6_holds_20 : decode cX6_holds 20 = .ok (.getfield 19, 3) := by decide +kernel
theorem dX6_holds_23 : decode cX6_holds 23 = .ok (.invokevirtual 97, 3) := by decide +kernel
theorem dX6_holds_26 : decode cX6_holds 26 = .ok (.istore_n 2, 1) := by decide +kernel
theorem dX6_holds_27 : decode cX6_holds 27 = .ok (.aload_n 0, 1) := by decide +kernel
theorem dX6_holds_28 : decode cX6_holds 28 = .ok (.iload_n 2, 1) := by decide +kernel
theorem dX6_holds_29 : decode cX6_holds 29 = .ok (.invokevirtual 199, 3) := by decide +kernel
theorem dX6_holds_32 : decode cX6_holds 32 = .ok (.aload_n 0, 1) := by decide +kernel
theorem dX6_holds_33 : decode cX6_holds 33 = .ok (.aload_n 0, 1) := by decide +kernel
theorem dX6_holds_34 : decode cX6_holds 34 = .ok (.getfield 19, 3) := by decide +kernel
theorem dX6_holds_37 : decode cX6_holds 37 = .ok (.iload_n 2, 1) := by decide +kernel
theorem dX6_holds_38 : decode cX6_holds 38 = .ok (.invokevirtual 105, 3) := by decide +kernel
theorem dX6_holds_41 : decode cX6_holds 41 = .ok (.if_icmp .eq 6, 3) := by decide +kernel
theorem dX6_holds_44 : decode cX6_holds 44 = .ok (.bipush (-3), 2) := by decide +kernel
theorem dX6_holds_46 : decode cX6_holds 46 = .ok (.ireturn, 1) := by decide +kernel
theorem dX6_holds_47 : decode cX6_holds 47 = .ok (.iconst 1, 1) := by decide +kernel
theorem dX6_holds_48 : decode cX6_holds 48 = .ok (.istore_n 3, 1) := by decide +kernel
theorem dX6_holds_49 : decode cX6_holds 49 = .ok (.iload_n 3, 1) := by decide +kernel
theorem dX6_holds_50 : decode cX6_holds 50 = .ok (.iload_n 2, 1) := by decide +kernel
theorem dX6_holds_51 : decode cX6_holds 51 = .ok (.if_icmp .gt 28, 3) := by decide +kernel
theorem dX6_holds_54 : decode cX6_holds 54 = .ok (.aload_n 0, 1) := by decide +kernel
theorem dX6_holds_55 : decode cX6_holds 55 = .ok (.iload_n 3, 1) := by decide +kernel
theorem dX6_holds_56 : decode cX6_holds 56 = .ok (.invokevirtual 199, 3) := by decide +kernel
theorem dX6_holds_59 : decode cX6_holds 59 = .ok (.aload_n 0, 1) := by decide +kernel
theorem dX6_holds_60 : decode cX6_holds 60 = .ok (.aload_n 0, 1) := by decide +kernel
theorem dX6_holds_61 : decode cX6_holds 61 = .ok (.getfield 19, 3) := by decide +kernel
theorem dX6_holds_64 : decode cX6_holds 64 = .ok (.iload_n 3, 1) := by decide +kernel
theorem dX6_holds_65 : decode cX6_holds 65 = .ok (.invokevirtual 105, 3) := by decide +kernel
theorem dX6_holds_68 : decode cX6_holds 68 = .ok (.if_icmp .ge 5, 3) := by decide +kernel
theorem dX6_holds_71 : decode cX6_holds 71 = .ok (.iload_n 3, 1) := by decide +kernel
theorem dX6_holds_72 : decode cX6_holds 72 = .ok (.ireturn, 1) := by decide +kernel
theorem dX6_holds_73 : decode cX6_holds 73 = .ok (.iinc 3 1, 3) := by decide +kernel
theorem dX6_holds_76 : decode cX6_holds 76 = .ok (.goto (-27), 3) := by decide +kernel
theorem dX6_holds_79 : decode cX6_holds 79 = .ok (.bipush (-9), 2) := by decide +kernel
theorem dX6_holds_81 : decode cX6_holds 81 = .ok (.ireturn, 1) := by decide +kernel
theorem dX6_judge_0 : decode cX6_judge 0 = .ok (.iload_n 1, 1) := by decide +kernel
theorem dX6_judge_1 : decode cX6_judge 1 = .ok (.iconst 1, 1) := by decide +kernel
theorem dX6_judge_2 : decode cX6_judge 2 = .ok (.if_icmp .lt 19, 3) := by decide +kernel
theorem dX6_judge_5 : decode cX6_judge 5 = .ok (.iload_n 1, 1) := by decide +kernel
theorem dX6_judge_6 : decode cX6_judge 6 = .ok (.iconst 4, 1) := by decide +kernel
theorem dX6_judge_7 : decode cX6_judge 7 = .ok (.if_icmp .gt 14, 3) := by decide +kernel
theorem dX6_judge_10 : decode cX6_judge 10 = .ok (.aload_n 0, 1) := by decide +kernel
theorem dX6_judge_11 : decode cX6_judge 11 = .ok (.lload_n 2, 1) := by decide +kernel
theorem dX6_judge_12 : decode cX6_judge 12 = .ok (.iload_n 1, 1) := by decide +kernel
theorem dX6_judge_13 : decode cX6_judge 13 = .ok (.iconst 4, 1) := by decide +kernel
theorem dX6_judge_14 : decode cX6_judge 14 = .ok (.imul, 1) := by decide +kernel
theorem dX6_judge_15 : decode cX6_judge 15 = .ok (.invokevirtual 172, 3) := by decide +kernel
theorem dX6_judge_18 : decode cX6_judge 18 = .ok (.ifCond .ne 6, 3) := by decide +kernel
theorem dX6_judge_21 : decode cX6_judge 21 = .ok (.bipush (-2), 2) := by decide +kernel
theorem dX6_judge_23 : decode cX6_judge 23 = .ok (.ireturn, 1) := by decide +kernel
theorem dX6_judge_24 : decode cX6_judge 24 = .ok (.aload_n 0, 1) := by decide +kernel
theorem dX6_judge_25 : decode cX6_judge 25 = .ok (.getfield 23, 3) := by decide +kernel
theorem dX6_judge_28 : decode cX6_judge 28 = .ok (.aload_n 0, 1) := by decide +kernel
theorem dX6_judge_29 : decode cX6_judge 29 = .ok (.getfield 19, 3) := by decide +kernel
theorem dX6_judge_32 : decode cX6_judge 32 = .ok (.invokevirtual 84, 3) := by decide +kernel
theorem dX6_judge_35 : decode cX6_judge 35 = .ok (.iconst 0, 1) := by decide +kernel
theorem dX6_judge_36 : decode cX6_judge 36 = .ok (.istore 4, 2) := by decide +kernel
theorem dX6_judge_38 : decode cX6_judge 38 = .ok (.iload 4, 2) := by decide +kernel
theorem dX6_judge_40 : decode cX6_judge 40 = .ok (.iload_n 1, 1) := by decide +kernel
theorem dX6_judge_41 : decode cX6_judge 41 = .ok (.if_icmp .ge 23, 3) := by decide +kernel
theorem dX6_judge_44 : decode cX6_judge 44 = .ok (.aload_n 0, 1) := by decide +kernel
theorem dX6_judge_45 : decode cX6_judge 45 = .ok (.iload 4, 2) := by decide +kernel
theorem dX6_judge_47 : decode cX6_judge 47 = .ok (.iconst 4, 1) := by decide +kernel
theorem dX6_judge_48 : decode cX6_judge 48 = .ok (.imul, 1) := by decide +kernel
theorem dX6_judge_49 : decode cX6_judge 49 = .ok (.invokevirtual 203, 3) := by decide +kernel
theorem dX6_judge_52 : decode cX6_judge 52 = .ok (.ifCond .ne 6, 3) := by decide +kernel
theorem dX6_judge_55 : decode cX6_judge 55 = .ok (.iload 4, 2) := by decide +kernel
theorem dX6_judge_57 : decode cX6_judge 57 = .ok (.ireturn, 1) := by decide +kernel
theorem dX6_judge_58 : decode cX6_judge 58 = .ok (.iinc 4 1, 3) := by decide +kernel
theorem dX6_judge_61 : decode cX6_judge 61 = .ok (.goto (-23), 3) := by decide +kernel
theorem dX6_judge_64 : decode cX6_judge 64 = .ok (.bipush (-9), 2) := by decide +kernel
theorem dX6_judge_66 : decode cX6_judge 66 = .ok (.ireturn, 1) := by decide +kernel
theorem dX6_share_0 : decode cX6_share 0 = .ok (.aload_n 0, 1) := by decide +kernel
theorem dX6_share_1 : decode cX6_share 1 = .ok (.getfield 19, 3) := by decide +kernel
theorem dX6_share_4 : decode cX6_share 4 = .ok (.iload_n 1, 1) := by decide +kernel
theorem dX6_share_5 : decode cX6_share 5 = .ok (.invokevirtual 127, 3) := by decide +kernel
theorem dX6_share_8 : decode cX6_share 8 = .ok (.ifCond .ne 5, 3) := by decide +kernel
theorem dX6_share_11 : decode cX6_share 11 = .ok (.iconst (-1), 1) := by decide +kernel
theorem dX6_share_12 : decode cX6_share 12 = .ok (.ireturn, 1) := by decide +kernel
theorem dX6_share_13 : decode cX6_share 13 = .ok (.iconst 1, 1) := by decide +kernel
theorem dX6_share_14 : decode cX6_share 14 = .ok (.iload_n 1, 1) := by decide +kernel
theorem dX6_share_15 : decode cX6_share 15 = .ok (.ishl, 1) := by decide +kernel
theorem dX6_share_16 : decode cX6_share 16 = .ok (.istore_n 3, 1) := by decide +kernel
theorem dX6_share_17 : decode cX6_share 17 = .ok (.iconst 0, 1) := by decide +kernel
theorem dX6_share_18 : decode cX6_share 18 = .ok (.istore 4, 2) := by decide +kernel
theorem dX6_share_20 : decode cX6_share 20 = .ok (.iconst 0, 1) := by decide +kernel
theorem dX6_share_21 : decode cX6_share 21 = .ok (.istore 5, 2) := by decide +kernel
theorem dX6_share_23 : decode cX6_share 23 = .ok (.iload 5, 2) := by decide +kernel
theorem dX6_share_25 : decode cX6_share 25 = .ok (.aload_n 0, 1) := by decide +kernel
theorem dX6_share_26 : decode cX6_share 26 = .ok (.getfield 19, 3) := by decide +kernel
theorem dX6_share_29 : decode cX6_share 29 = .ok (.invokevirtual 97, 3) := by decide +kernel
theorem dX6_share_32 : decode cX6_share 32 = .ok (.if_icmp .gt 83, 3) := by decide +kernel
theorem dX6_share_35 : decode cX6_share 35 = .ok (.iload 5, 2) := by decide +kernel
theorem dX6_share_37 : decode cX6_share 37 = .ok (.iload_n 3, 1) := by decide +kernel
theorem dX6_share_38 : decode cX6_share 38 = .ok (.iand, 1) := by decide +kernel
theorem dX6_share_39 : decode cX6_share 39 = .ok (.ifCond .ne 70, 3) := by decide +kernel
theorem dX6_share_42 : decode cX6_share 42 = .ok (.iload 5, 2) := by decide +kernel
theorem dX6_share_44 : decode cX6_share 44 = .ok (.invokestatic 206, 3) := by decide +kernel
theorem dX6_share_47 : decode cX6_share 47 = .ok (.istore 6, 2) := by decide +kernel
theorem dX6_share_49 : decode cX6_share 49 = .ok (.aload_n 0, 1) := by decide +kernel
theorem dX6_share_50 : decode cX6_share 50 = .ok (.getfield 19, 3) := by decide +kernel
theorem dX6_share_53 : decode cX6_share 53 = .ok (.getfield 91, 3) := by decide +kernel
theorem dX6_share_56 : decode cX6_share 56 = .ok (.iconst 1, 1) := by decide +kernel
theorem dX6_share_57 : decode cX6_share 57 = .ok (.isub, 1) := by decide +kernel
theorem dX6_share_58 : decode cX6_share 58 = .ok (.iload 6, 2) := by decide +kernel
theorem dX6_share_60 : decode cX6_share 60 = .ok (.isub, 1) := by decide +kernel
theorem dX6_share_61 : decode cX6_share 61 = .ok (.istore 7, 2) := by decide +kernel
theorem dX6_share_63 : decode cX6_share 63 = .ok (.aload_n 0, 1) := by decide +kernel
theorem dX6_share_64 : decode cX6_share 64 = .ok (.aload_n 0, 1) := by decide +kernel
theorem dX6_share_65 : decode cX6_share 65 = .ok (.getfield 19, 3) := by decide +kernel
theorem dX6_share_68 : decode cX6_share 68 = .ok (.iload 5, 2) := by decide +kernel
theorem dX6_share_70 : decode cX6_share 70 = .ok (.iload_n 3, 1) := by decide +kernel
theorem dX6_share_71 : decode cX6_share 71 = .ok (.ior, 1) := by decide +kernel
theorem dX6_share_72 : decode cX6_share 72 = .ok (.invokevirtual 105, 3) := by decide +kernel
theorem dX6_share_75 : decode cX6_share 75 = .ok (.aload_n 0, 1) := by decide +kernel
theorem dX6_share_76 : decode cX6_share 76 = .ok (.aload_n 0, 1) := by decide +kernel
theorem dX6_share_77 : decode cX6_share 77 = .ok (.getfield 19, 3) := by decide +kernel
theorem dX6_share_80 : decode cX6_share 80 = .ok (.iload 5, 2) := by decide +kernel
theorem dX6_share_82 : decode cX6_share 82 = .ok (.invokevirtual 105, 3) := by decide +kernel
theorem dX6_share_85 : decode cX6_share 85 = .ok (.isub, 1) := by decide +kernel
theorem dX6_share_86 : decode cX6_share 86 = .ok (.istore 8, 2) := by decide +kernel
theorem dX6_share_88 : decode cX6_share 88 = .ok (.iload 4, 2) := by decide +kernel
theorem dX6_share_90 : decode cX6_share 90 = .ok (.getstatic 211, 3) := by decide +kernel
theorem dX6_share_93 : decode cX6_share 93 = .ok (.iload 6, 2) := by decide +kernel
theorem dX6_share_95 : decode cX6_share 95 = .ok (.iaload, 1) := by decide +kernel
theorem dX6_share_96 : decode cX6_share 96 = .ok (.getstatic 211, 3) := by decide +kernel
theorem dX6_share_99 : decode cX6_share 99 = .ok (.iload 7, 2) := by decide +kernel
theorem dX6_share_101 : decode cX6_share 101 = .ok (.iaload, 1) := by decide +kernel
theorem dX6_share_102 : decode cX6_share 102 = .ok (.imul, 1) := by decide +kernel
theorem dX6_share_103 : decode cX6_share 103 = .ok (.iload 8, 2) := by decide +kernel
theorem dX6_share_105 : decode cX6_share 105 = .ok (.imul, 1) := by decide +kernel
theorem dX6_share_106 : decode cX6_share 106 = .ok (.iadd, 1) := by decide +kernel
theorem dX6_share_107 : decode cX6_share 107 = .ok (.istore 4, 2) := by decide +kernel
theorem dX6_share_109 : decode cX6_share 109 = .ok (.iinc 5 1, 3) := by decide +kernel
theorem dX6_share_112 : decode cX6_share 112 = .ok (.goto (-89), 3) := by decide +kernel
theorem dX6_share_115 : decode cX6_share 115 = .ok (.iload 4, 2) := by decide +kernel
theorem dX6_share_117 : decode cX6_share 117 = .ok (.getstatic 211, 3) := by decide +kernel
theorem dX6_share_120 : decode cX6_share 120 = .ok (.aload_n 0, 1) := by decide +kernel
theorem dX6_share_121 : decode cX6_share 121 = .ok (.getfield 19, 3) := by decide +kernel
theorem dX6_share_124 : decode cX6_share 124 = .ok (.getfield 91, 3) := by decide +kernel
theorem dX6_share_127 : decode cX6_share 127 = .ok (.iaload, 1) := by decide +kernel
theorem dX6_share_128 : decode cX6_share 128 = .ok (.iload_n 2, 1) := by decide +kernel
theorem dX6_share_129 : decode cX6_share 129 = .ok (.invokestatic 214, 3) := by decide +kernel
theorem dX6_share_132 : decode cX6_share 132 = .ok (.ireturn, 1) := by decide +kernel
theorem dX6_see_0 : decode cX6_see 0 = .ok (.aload_n 0, 1) := by decide +kernel
theorem dX6_see_1 : decode cX6_see 1 = .ok (.getfield 19, 3) := by decide +kernel
theorem dX6_see_4 : decode cX6_see 4 = .ok (.iload_n 1, 1) := by decide +kernel
theorem dX6_see_5 : decode cX6_see 5 = .ok (.invokevirtual 115, 3) := by decide +kernel
theorem dX6_see_8 : decode cX6_see 8 = .ok (.ifCond .eq 20, 3) := by decide +kernel
theorem dX6_see_11 : decode cX6_see 11 = .ok (.aload_n 0, 1) := by decide +kernel
theorem dX6_see_12 : decode cX6_see 12 = .ok (.getfield 19, 3) := by decide +kernel
theorem dX6_see_15 : decode cX6_see 15 = .ok (.iload_n 2, 1) := by decide +kernel
theorem dX6_see_16 : decode cX6_see 16 = .ok (.invokevirtual 127, 3) := by decide +kernel
theorem dX6_see_19 : decode cX6_see 19 = .ok (.ifCond .ne 11, 3) := by decide +kernel
theorem dX6_see_22 : decode cX6_see 22 = .ok (.iload_n 2, 1) := by decide +kernel
theorem dX6_see_23 : decode cX6_see 23 = .ok (.bipush 9, 2) := by decide +kernel
theorem dX6_see_25 : decode cX6_see 25 = .ok (.if_icmp .eq 5, 3) := by decide +kernel
theorem dX6_see_28 : decode cX6_see 28 = .ok (.iconst (-1), 1) := by decide +kernel
theorem dX6_see_29 : decode cX6_see 29 = .ok (.ireturn, 1) := by decide +kernel
theorem dX6_see_30 : decode cX6_see 30 = .ok (.iload_n 3, 1) := by decide +kernel
theorem dX6_see_31 : decode cX6_see 31 = .ok (.ifCond .eq 11, 3) := by decide +kernel
theorem dX6_see_34 : decode cX6_see 34 = .ok (.iload_n 3, 1) := by decide +kernel
theorem dX6_see_35 : decode cX6_see 35 = .ok (.iconst 1, 1) := by decide +kernel
theorem dX6_see_36 : decode cX6_see 36 = .ok (.if_icmp .eq 6, 3) := by decide +kernel
theorem dX6_see_39 : decode cX6_see 39 = .ok (.bipush (-2), 2) := by decide +kernel
theorem dX6_see_41 : decode cX6_see 41 = .ok (.ireturn, 1) := by decide +kernel
theorem dX6_see_42 : decode cX6_see 42 = .ok (.aload_n 0, 1) := by decide +kernel
theorem dX6_see_43 : decode cX6_see 43 = .ok (.getfield 50, 3) := by decide +kernel
theorem dX6_see_46 : decode cX6_see 46 = .ok (.iload_n 1, 1) := by decide +kernel
theorem dX6_see_47 : decode cX6_see 47 = .ok (.iload_n 2, 1) := by decide +kernel
theorem dX6_see_48 : decode cX6_see 48 = .ok (.iload_n 3, 1) := by decide +kernel
theorem dX6_see_49 : decode cX6_see 49 = .ok (.iconst 1, 1) := by decide +kernel
theorem dX6_see_50 : decode cX6_see 50 = .ok (.if_icmp .ne 7, 3) := by decide +kernel
theorem dX6_see_53 : decode cX6_see 53 = .ok (.iconst 1, 1) := by decide +kernel
theorem dX6_see_54 : decode cX6_see 54 = .ok (.goto 4, 3) := by decide +kernel
theorem dX6_see_57 : decode cX6_see 57 = .ok (.iconst 0, 1) := by decide +kernel
theorem dX6_see_58 : decode cX6_see 58 = .ok (.invokevirtual 218, 3) := by decide +kernel
theorem dX6_see_61 : decode cX6_see 61 = .ok (.ifCond .eq 13, 3) := by decide +kernel
theorem dX6_see_64 : decode cX6_see 64 = .ok (.aload_n 0, 1) := by decide +kernel
theorem dX6_see_65 : decode cX6_see 65 = .ok (.getfield 50, 3) := by decide +kernel
theorem dX6_see_68 : decode cX6_see 68 = .ok (.getfield 114, 3) := by decide +kernel
theorem dX6_see_71 : decode cX6_see 71 = .ok (.goto 5, 3) := by decide +kernel
theorem dX6_see_74 : decode cX6_see 74 = .ok (.bipush (-4), 2) := by decide +kernel
theorem dX6_see_76 : decode cX6_see 76 = .ok (.ireturn, 1) := by decide +kernel
theorem dX6_unsee_0 : decode cX6_unsee 0 = .ok (.aload_n 0, 1) := by decide +kernel
theorem dX6_unsee_1 : decode cX6_unsee 1 = .ok (.getfield 50, 3) := by decide +kernel
theorem dX6_unsee_4 : decode cX6_unsee 4 = .ok (.getfield 114, 3) := by decide +kernel
theorem dX6_unsee_7 : decode cX6_unsee 7 = .ok (.istore_n 1, 1) := by decide +kernel
theorem dX6_unsee_8 : decode cX6_unsee 8 = .ok (.aload_n 0, 1) := by decide +kernel
theorem dX6_unsee_9 : decode cX6_unsee 9 = .ok (.getfield 50, 3) := by decide +kernel
theorem dX6_unsee_12 : decode cX6_unsee 12 = .ok (.iconst 0, 1) := by decide +kernel
theorem dX6_unsee_13 : decode cX6_unsee 13 = .ok (.putfield 114, 3) := by decide +kernel
theorem dX6_unsee_16 : decode cX6_unsee 16 = .ok (.iload_n 1, 1) := by decide +kernel
theorem dX6_unsee_17 : decode cX6_unsee 17 = .ok (.ireturn, 1) := by decide +kernel
theorem dX6_which_0 : decode cX6_which 0 = .ok (.iload_n 1, 1) := by decide +kernel
theorem dX6_which_1 : decode cX6_which 1 = .ok (.ifCond .eq 11, 3) := by decide +kernel
theorem dX6_which_4 : decode cX6_which 4 = .ok (.iload_n 1, 1) := by decide +kernel
theorem dX6_which_5 : decode cX6_which 5 = .ok (.iconst 1, 1) := by decide +kernel
theorem dX6_which_6 : decode cX6_which 6 = .ok (.if_icmp .eq 6, 3) := by decide +kernel
theorem dX6_which_9 : decode cX6_which 9 = .ok (.bipush (-2), 2) := by decide +kernel
theorem dX6_which_11 : decode cX6_which 11 = .ok (.ireturn, 1) := by decide +kernel
theorem dX6_which_12 : decode cX6_which 12 = .ok (.aload_n 0, 1) := by decide +kernel
theorem dX6_which_13 : decode cX6_which 13 = .ok (.getfield 23, 3) := by decide +kernel
theorem dX6_which_16 : decode cX6_which 16 = .ok (.aload_n 0, 1) := by decide +kernel
theorem dX6_which_17 : decode cX6_which 17 = .ok (.getfield 19, 3) := by decide +kernel
theorem dX6_which_20 : decode cX6_which 20 = .ok (.invokevirtual 84, 3) := by decide +kernel
theorem dX6_which_23 : decode cX6_which 23 = .ok (.iconst 0, 1) := by decide +kernel
theorem dX6_which_24 : decode cX6_which 24 = .ok (.istore_n 2, 1) := by decide +kernel
theorem dX6_which_25 : decode cX6_which 25 = .ok (.bipush (-9), 2) := by decide +kernel
theorem dX6_which_27 : decode cX6_which 27 = .ok (.istore_n 3, 1) := by decide +kernel
theorem dX6_which_28 : decode cX6_which 28 = .ok (.iconst 0, 1) := by decide +kernel
theorem dX6_which_29 : decode cX6_which 29 = .ok (.istore 4, 2) := by decide +kernel
theorem dX6_which_31 : decode cX6_which 31 = .ok (.iload 4, 2) := by decide +kernel
theorem dX6_which_33 : decode cX6_which 33 = .ok (.aload_n 0, 1) := by decide +kernel
theorem dX6_which_34 : decode cX6_which 34 = .ok (.getfield 19, 3) := by decide +kernel
theorem dX6_which_37 : decode cX6_which 37 = .ok (.getfield 91, 3) := by decide +kernel
theorem dX6_which_40 : decode cX6_which 40 = .ok (.if_icmp .ge 105, 3) := by decide +kernel
theorem dX6_which_43 : decode cX6_which 43 = .ok (.iconst 0, 1) := by decide +kernel
theorem dX6_which_44 : decode cX6_which 44 = .ok (.istore 5, 2) := by decide +kernel
theorem dX6_which_46 : decode cX6_which 46 = .ok (.iload 5, 2) := by decide +kernel
theorem dX6_which_48 : decode cX6_which 48 = .ok (.bipush 9, 2) := by decide +kernel
theorem dX6_which_50 : decode cX6_which 50 = .ok (.if_icmp .gt 69, 3) := by decide +kernel
theorem dX6_which_53 : decode cX6_which 53 = .ok (.aload_n 0, 1) := by decide +kernel
theorem dX6_which_54 : decode cX6_which 54 = .ok (.getfield 23, 3) := by decide +kernel
theorem dX6_which_57 : decode cX6_which 57 = .ok (.getfield 136, 3) := by decide +kernel
theorem dX6_which_60 : decode cX6_which 60 = .ok (.iload 4, 2) := by decide +kernel
theorem dX6_which_62 : decode cX6_which 62 = .ok (.iload 5, 2) := by decide +kernel
theorem dX6_which_64 : decode cX6_which 64 = .ok (.iastore, 1) := by decide +kernel
theorem dX6_which_65 : decode cX6_which 65 = .ok (.iload 5, 2) := by decide +kernel
theorem dX6_which_67 : decode cX6_which 67 = .ok (.aload_n 0, 1) := by decide +kernel
theorem dX6_which_68 : decode cX6_which 68 = .ok (.getfield 19, 3) := by decide +kernel
theorem dX6_which_71 : decode cX6_which 71 = .ok (.getfield 136, 3) := by decide +kernel
theorem dX6_which_74 : decode cX6_which 74 = .ok (.iload 4, 2) := by decide +kernel
theorem dX6_which_76 : decode cX6_which 76 = .ok (.iaload, 1) := by decide +kernel
theorem dX6_which_77 : decode cX6_which 77 = .ok (.if_icmp .eq 36, 3) := by decide +kernel
theorem dX6_which_80 : decode cX6_which 80 = .ok (.aload_n 0, 1) := by decide +kernel
theorem dX6_which_81 : decode cX6_which 81 = .ok (.aload_n 0, 1) := by decide +kernel
theorem dX6_which_82 : decode cX6_which 82 = .ok (.getfield 23, 3) := by decide +kernel
theorem dX6_which_85 : decode cX6_which 85 = .ok (.invokevirtual 221, 3) := by decide +kernel
theorem dX6_which_88 : decode cX6_which 88 = .ok (.ifCond .eq 25, 3) := by decide +kernel
theorem dX6_which_91 : decode cX6_which 91 = .ok (.iinc 2 1, 3) := by decide +kernel
theorem dX6_which_94 : decode cX6_which 94 = .ok (.iload_n 3, 1) := by decide +kernel
theorem dX6_which_95 : decode cX6_which 95 = .ok (.bipush (-9), 2) := by decide +kernel
theorem dX6_which_97 : decode cX6_which 97 = .ok (.if_icmp .ne 14, 3) := by decide +kernel
theorem dX6_which_100 : decode cX6_which 100 = .ok (.bipush 10, 2) := by decide +kernel
theorem dX6_which_102 : decode cX6_which 102 = .ok (.iload 4, 2) := by decide +kernel
theorem dX6_which_104 : decode cX6_which 104 = .ok (.imul, 1) := by decide +kernel
theorem dX6_which_105 : decode cX6_which 105 = .ok (.iload 5, 2) := by decide +kernel
theorem dX6_which_107 : decode cX6_which 107 = .ok (.iadd, 1) := by decide +kernel
theorem dX6_which_108 : decode cX6_which 108 = .ok (.goto 4, 3) := by decide +kernel
theorem dX6_which_111 : decode cX6_which 111 = .ok (.iload_n 3, 1) := by decide +kernel
theorem dX6_which_112 : decode cX6_which 112 = .ok (.istore_n 3, 1) := by decide +kernel
theorem dX6_which_113 : decode cX6_which 113 = .ok (.iinc 5 1, 3) := by decide +kernel
theorem dX6_which_116 : decode cX6_which 116 = .ok (.goto (-70), 3) := by decide +kernel
theorem dX6_which_119 : decode cX6_which 119 = .ok (.aload_n 0, 1) := by decide +kernel
theorem dX6_which_120 : decode cX6_which 120 = .ok (.getfield 23, 3) := by decide +kernel
theorem dX6_which_123 : decode cX6_which 123 = .ok (.getfield 136, 3) := by decide +kernel
theorem dX6_which_126 : decode cX6_which 126 = .ok (.iload 4, 2) := by decide +kernel
theorem dX6_which_128 : decode cX6_which 128 = .ok (.aload_n 0, 1) := by decide +kernel
theorem dX6_which_129 : decode cX6_which 129 = .ok (.getfield 19, 3) := by decide +kernel
theorem dX6_which_132 : decode cX6_which 132 = .ok (.getfield 136, 3) := by decide +kernel
theorem dX6_which_135 : decode cX6_which 135 = .ok (.iload 4, 2) := by decide +kernel
theorem dX6_which_137 : decode cX6_which 137 = .ok (.iaload, 1) := by decide +kernel
theorem dX6_which_138 : decode cX6_which 138 = .ok (.iastore, 1) := by decide +kernel
theorem dX6_which_139 : decode cX6_which 139 = .ok (.iinc 4 1, 3) := by decide +kernel
theorem dX6_which_142 : decode cX6_which 142 = .ok (.goto (-111), 3) := by decide +kernel
theorem dX6_which_145 : decode cX6_which 145 = .ok (.iload_n 1, 1) := by decide +kernel
theorem dX6_which_146 : decode cX6_which 146 = .ok (.ifCond .ne 7, 3) := by decide +kernel
theorem dX6_which_149 : decode cX6_which 149 = .ok (.iload_n 2, 1) := by decide +kernel
theorem dX6_which_150 : decode cX6_which 150 = .ok (.goto 4, 3) := by decide +kernel
theorem dX6_which_153 : decode cX6_which 153 = .ok (.iload_n 3, 1) := by decide +kernel
theorem dX6_which_154 : decode cX6_which 154 = .ok (.ireturn, 1) := by decide +kernel
theorem dX6_gone_0 : decode cX6_gone 0 = .ok (.iload_n 1, 1) := by decide +kernel
theorem dX6_gone_1 : decode cX6_gone 1 = .ok (.ifCond .lt 9, 3) := by decide +kernel
theorem dX6_gone_4 : decode cX6_gone 4 = .ok (.iload_n 1, 1) := by decide +kernel
theorem dX6_gone_5 : decode cX6_gone 5 = .ok (.bipush 10, 2) := by decide +kernel
theorem dX6_gone_7 : decode cX6_gone 7 = .ok (.if_icmp .le 6, 3) := by decide +kernel
theorem dX6_gone_10 : decode cX6_gone 10 = .ok (.bipush (-2), 2) := by decide +kernel
theorem dX6_gone_12 : decode cX6_gone 12 = .ok (.ireturn, 1) := by decide +kernel
theorem dX6_gone_13 : decode cX6_gone 13 = .ok (.iconst 0, 1) := by decide +kernel
theorem dX6_gone_14 : decode cX6_gone 14 = .ok (.istore_n 3, 1) := by decide +kernel
theorem dX6_gone_15 : decode cX6_gone 15 = .ok (.iconst 1, 1) := by decide +kernel
theorem dX6_gone_16 : decode cX6_gone 16 = .ok (.istore 4, 2) := by decide +kernel
theorem dX6_gone_18 : decode cX6_gone 18 = .ok (.iconst 0, 1) := by decide +kernel
theorem dX6_gone_19 : decode cX6_gone 19 = .ok (.istore 5, 2) := by decide +kernel
theorem dX6_gone_21 : decode cX6_gone 21 = .ok (.iload 5, 2) := by decide +kernel
theorem dX6_gone_23 : decode cX6_gone 23 = .ok (.aload_n 0, 1) := by decide +kernel
theorem dX6_gone_24 : decode cX6_gone 24 = .ok (.getfield 19, 3) := by decide +kernel
theorem dX6_gone_27 : decode cX6_gone 27 = .ok (.getfield 91, 3) := by decide +kernel
theorem dX6_gone_30 : decode cX6_gone 30 = .ok (.if_icmp .ge 16, 3) := by decide +kernel
theorem dX6_gone_33 : decode cX6_gone 33 = .ok (.iload 4, 2) := by decide +kernel
theorem dX6_gone_35 : decode cX6_gone 35 = .ok (.bipush 10, 2) := by decide +kernel
theorem dX6_gone_37 : decode cX6_gone 37 = .ok (.imul, 1) := by decide +kernel
theorem dX6_gone_38 : decode cX6_gone 38 = .ok (.istore 4, 2) := by decide +kernel
theorem dX6_gone_40 : decode cX6_gone 40 = .ok (.iinc 5 1, 3) := by decide +kernel
theorem dX6_gone_43 : decode cX6_gone 43 = .ok (.goto (-22), 3) := by decide +kernel
theorem dX6_gone_46 : decode cX6_gone 46 = .ok (.iconst 0, 1) := by decide +kernel
theorem dX6_gone_47 : decode cX6_gone 47 = .ok (.istore 5, 2) := by decide +kernel
theorem dX6_gone_49 : decode cX6_gone 49 = .ok (.iload 5, 2) := by decide +kernel
theorem dX6_gone_51 : decode cX6_gone 51 = .ok (.aload_n 0, 1) := by decide +kernel
theorem dX6_gone_52 : decode cX6_gone 52 = .ok (.getfield 19, 3) := by decide +kernel
theorem dX6_gone_55 : decode cX6_gone 55 = .ok (.invokevirtual 97, 3) := by decide +kernel
theorem dX6_gone_58 : decode cX6_gone 58 = .ok (.if_icmp .gt 34, 3) := by decide +kernel
theorem dX6_gone_61 : decode cX6_gone 61 = .ok (.aload_n 0, 1) := by decide +kernel
theorem dX6_gone_62 : decode cX6_gone 62 = .ok (.aload_n 0, 1) := by decide +kernel
theorem dX6_gone_63 : decode cX6_gone 63 = .ok (.getfield 19, 3) := by decide +kernel
theorem dX6_gone_66 : decode cX6_gone 66 = .ok (.iload 5, 2) := by decide +kernel
theorem dX6_gone_68 : decode cX6_gone 68 = .ok (.invokevirtual 101, 3) := by decide +kernel
