theorem dX7_find_15 : decode cX7_find 15 = .ok (.aload_n 0, 1) := by decide +kernel
theorem dX7_find_16 : decode cX7_find 16 = .ok (.getfield 63, 3) := by decide +kernel
theorem dX7_find_19 : decode cX7_find 19 = .ok (.invokestatic 116, 3) := by decide +kernel
theorem dX7_find_22 : decode cX7_find 22 = .ok (.if_icmp .ge 55, 3) := by decide +kernel
theorem dX7_find_25 : decode cX7_find 25 = .ok (.aload_n 0, 1) := by decide +kernel
theorem dX7_find_26 : decode cX7_find 26 = .ok (.aload_n 1, 1) := by decide +kernel
theorem dX7_find_27 : decode cX7_find 27 = .ok (.iload_n 3, 1) := by decide +kernel
theorem dX7_find_28 : decode cX7_find 28 = .ok (.iconst 5, 1) := by decide +kernel
theorem dX7_find_29 : decode cX7_find 29 = .ok (.iload_n 2, 1) := by decide +kernel
theorem dX7_find_30 : decode cX7_find 30 = .ok (.invokevirtual 139, 3) := by decide +kernel
theorem dX7_find_33 : decode cX7_find 33 = .ok (.istore 4, 2) := by decide +kernel
theorem dX7_find_35 : decode cX7_find 35 = .ok (.iload 4, 2) := by decide +kernel
theorem dX7_find_37 : decode cX7_find 37 = .ok (.bipush (-9), 2) := by decide +kernel
theorem dX7_find_39 : decode cX7_find 39 = .ok (.if_icmp .eq 32, 3) := by decide +kernel
theorem dX7_find_42 : decode cX7_find 42 = .ok (.aload_n 0, 1) := by decide +kernel
theorem dX7_find_43 : decode cX7_find 43 = .ok (.getfield 133, 3) := by decide +kernel
theorem dX7_find_46 : decode cX7_find 46 = .ok (.bipush (-9), 2) := by decide +kernel
theorem dX7_find_48 : decode cX7_find 48 = .ok (.if_icmp .eq 12, 3) := by decide +kernel
theorem dX7_find_51 : decode cX7_find 51 = .ok (.iload 4, 2) := by decide +kernel
theorem dX7_find_53 : decode cX7_find 53 = .ok (.aload_n 0, 1) := by decide +kernel
theorem dX7_find_54 : decode cX7_find 54 = .ok (.getfield 133, 3) := by decide +kernel
theorem dX7_find_57 : decode cX7_find 57 = .ok (.if_icmp .ge 14, 3) := by decide +kernel
theorem dX7_find_60 : decode cX7_find 60 = .ok (.aload_n 0, 1) := by decide +kernel
theorem dX7_find_61 : decode cX7_find 61 = .ok (.iload 4, 2) := by decide +kernel
theorem dX7_find_63 : decode cX7_find 63 = .ok (.putfield 133, 3) := by decide +kernel
theorem dX7_find_66 : decode cX7_find 66 = .ok (.aload_n 0, 1) := by decide +kernel
theorem dX7_find_67 : decode cX7_find 67 = .ok (.iload_n 3, 1) := by decide +kernel
theorem dX7_find_68 : decode cX7_find 68 = .ok (.putfield 136, 3) := by decide +kernel
theorem dX7_find_71 : decode cX7_find 71 = .ok (.iinc 3 1, 3) := by decide +kernel
theorem dX7_find_74 : decode cX7_find 74 = .ok (.goto (-61), 3) := by decide +kernel
theorem dX7_find_77 : decode cX7_find 77 = .ok (.return_, 1) := by decide +kernel
theorem dX7_leastBy_0 : decode cX7_leastBy 0 = .ok (.aload_n 0, 1) := by decide +kernel
theorem dX7_leastBy_1 : decode cX7_leastBy 1 = .ok (.aload_n 1, 1) := by decide +kernel
theorem dX7_leastBy_2 : decode cX7_leastBy 2 = .ok (.iload_n 2, 1) := by decide +kernel
theorem dX7_leastBy_3 : decode cX7_leastBy 3 = .ok (.invokevirtual 143, 3) := by decide +kernel
theorem dX7_leastBy_6 : decode cX7_leastBy 6 = .ok (.aload_n 0, 1) := by decide +kernel
theorem dX7_leastBy_7 : decode cX7_leastBy 7 = .ok (.getfield 133, 3) := by decide +kernel
theorem dX7_leastBy_10 : decode cX7_leastBy 10 = .ok (.ireturn, 1) := by decide +kernel
theorem dX7_unitsOf_0 : decode cX7_unitsOf 0 = .ok (.iconst 0, 1) := by decide +kernel
theorem dX7_unitsOf_1 : decode cX7_unitsOf 1 = .ok (.istore_n 3, 1) := by decide +kernel
theorem dX7_unitsOf_2 : decode cX7_unitsOf 2 = .ok (.iconst 0, 1) := by decide +kernel
theorem dX7_unitsOf_3 : decode cX7_unitsOf 3 = .ok (.istore 4, 2) := by decide +kernel
theorem dX7_unitsOf_5 : decode cX7_unitsOf 5 = .ok (.iload 4, 2) := by decide +kernel
theorem dX7_unitsOf_7 : decode cX7_unitsOf 7 = .ok (.aload_n 0, 1) := by decide +kernel
theorem dX7_unitsOf_8 : decode cX7_unitsOf 8 = .ok (.getfield 63, 3) := by decide +kernel
theorem dX7_unitsOf_11 : decode cX7_unitsOf 11 = .ok (.if_icmp .ge 35, 3) := by decide +kernel
theorem dX7_unitsOf_14 : decode cX7_unitsOf 14 = .ok (.iload_n 3, 1) := by decide +kernel
theorem dX7_unitsOf_15 : decode cX7_unitsOf 15 = .ok (.aload_n 0, 1) := by decide +kernel
theorem dX7_unitsOf_16 : decode cX7_unitsOf 16 = .ok (.aload_n 0, 1) := by decide +kernel
theorem dX7_unitsOf_17 : decode cX7_unitsOf 17 = .ok (.getfield 136, 3) := by decide +kernel
theorem dX7_unitsOf_20 : decode cX7_unitsOf 20 = .ok (.iconst 5, 1) := by decide +kernel
theorem dX7_unitsOf_21 : decode cX7_unitsOf 21 = .ok (.iload 4, 2) := by decide +kernel
theorem dX7_unitsOf_23 : decode cX7_unitsOf 23 = .ok (.invokevirtual 119, 3) := by decide +kernel
theorem dX7_unitsOf_26 : decode cX7_unitsOf 26 = .ok (.iload_n 2, 1) := by decide +kernel
theorem dX7_unitsOf_27 : decode cX7_unitsOf 27 = .ok (.if_icmp .ne 10, 3) := by decide +kernel
theorem dX7_unitsOf_30 : decode cX7_unitsOf 30 = .ok (.aload_n 1, 1) := by decide +kernel
theorem dX7_unitsOf_31 : decode cX7_unitsOf 31 = .ok (.iload 4, 2) := by decide +kernel
theorem dX7_unitsOf_33 : decode cX7_unitsOf 33 = .ok (.iaload, 1) := by decide +kernel
theorem dX7_unitsOf_34 : decode cX7_unitsOf 34 = .ok (.goto 4, 3) := by decide +kernel
theorem dX7_unitsOf_37 : decode cX7_unitsOf 37 = .ok (.iconst 0, 1) := by decide +kernel
theorem dX7_unitsOf_38 : decode cX7_unitsOf 38 = .ok (.iadd, 1) := by decide +kernel
theorem dX7_unitsOf_39 : decode cX7_unitsOf 39 = .ok (.istore_n 3, 1) := by decide +kernel
theorem dX7_unitsOf_40 : decode cX7_unitsOf 40 = .ok (.iinc 4 1, 3) := by decide +kernel
theorem dX7_unitsOf_43 : decode cX7_unitsOf 43 = .ok (.goto (-38), 3) := by decide +kernel
theorem dX7_unitsOf_46 : decode cX7_unitsOf 46 = .ok (.iload_n 3, 1) := by decide +kernel
theorem dX7_unitsOf_47 : decode cX7_unitsOf 47 = .ok (.ireturn, 1) := by decide +kernel
theorem dX7_paid_0 : decode cX7_paid 0 = .ok (.aload_n 0, 1) := by decide +kernel
theorem dX7_paid_1 : decode cX7_paid 1 = .ok (.aload_n 1, 1) := by decide +kernel
theorem dX7_paid_2 : decode cX7_paid 2 = .ok (.aload_n 0, 1) := by decide +kernel
theorem dX7_paid_3 : decode cX7_paid 3 = .ok (.invokevirtual 147, 3) := by decide +kernel
theorem dX7_paid_6 : decode cX7_paid 6 = .ok (.iconst 1, 1) := by decide +kernel
theorem dX7_paid_7 : decode cX7_paid 7 = .ok (.iload_n 2, 1) := by decide +kernel
theorem dX7_paid_8 : decode cX7_paid 8 = .ok (.ishl, 1) := by decide +kernel
theorem dX7_paid_9 : decode cX7_paid 9 = .ok (.iconst (-1), 1) := by decide +kernel
theorem dX7_paid_10 : decode cX7_paid 10 = .ok (.ixor, 1) := by decide +kernel
theorem dX7_paid_11 : decode cX7_paid 11 = .ok (.iand, 1) := by decide +kernel
theorem dX7_paid_12 : decode cX7_paid 12 = .ok (.invokevirtual 150, 3) := by decide +kernel
theorem dX7_paid_15 : decode cX7_paid 15 = .ok (.istore_n 3, 1) := by decide +kernel
theorem dX7_paid_16 : decode cX7_paid 16 = .ok (.aload_n 0, 1) := by decide +kernel
theorem dX7_paid_17 : decode cX7_paid 17 = .ok (.aload_n 1, 1) := by decide +kernel
theorem dX7_paid_18 : decode cX7_paid 18 = .ok (.aload_n 0, 1) := by decide +kernel
theorem dX7_paid_19 : decode cX7_paid 19 = .ok (.invokevirtual 147, 3) := by decide +kernel
theorem dX7_paid_22 : decode cX7_paid 22 = .ok (.invokevirtual 150, 3) := by decide +kernel
theorem dX7_paid_25 : decode cX7_paid 25 = .ok (.istore 4, 2) := by decide +kernel
theorem dX7_paid_27 : decode cX7_paid 27 = .ok (.iload_n 3, 1) := by decide +kernel
theorem dX7_paid_28 : decode cX7_paid 28 = .ok (.bipush (-9), 2) := by decide +kernel
theorem dX7_paid_30 : decode cX7_paid 30 = .ok (.if_icmp .eq 10, 3) := by decide +kernel
theorem dX7_paid_33 : decode cX7_paid 33 = .ok (.iload 4, 2) := by decide +kernel
theorem dX7_paid_35 : decode cX7_paid 35 = .ok (.bipush (-9), 2) := by decide +kernel
theorem dX7_paid_37 : decode cX7_paid 37 = .ok (.if_icmp .ne 8, 3) := by decide +kernel
theorem dX7_paid_40 : decode cX7_paid 40 = .ok (.bipush (-9), 2) := by decide +kernel
theorem dX7_paid_42 : decode cX7_paid 42 = .ok (.goto 21, 3) := by decide +kernel
theorem dX7_paid_45 : decode cX7_paid 45 = .ok (.aload_n 0, 1) := by decide +kernel
theorem dX7_paid_46 : decode cX7_paid 46 = .ok (.aload_n 1, 1) := by decide +kernel
theorem dX7_paid_47 : decode cX7_paid 47 = .ok (.iload_n 2, 1) := by decide +kernel
theorem dX7_paid_48 : decode cX7_paid 48 = .ok (.invokevirtual 154, 3) := by decide +kernel
theorem dX7_paid_51 : decode cX7_paid 51 = .ok (.aload_n 1, 1) := by decide +kernel
theorem dX7_paid_52 : decode cX7_paid 52 = .ok (.bipush 8, 2) := by decide +kernel
theorem dX7_paid_54 : decode cX7_paid 54 = .ok (.iload_n 2, 1) := by decide +kernel
theorem dX7_paid_55 : decode cX7_paid 55 = .ok (.iadd, 1) := by decide +kernel
theorem dX7_paid_56 : decode cX7_paid 56 = .ok (.iaload, 1) := by decide +kernel
theorem dX7_paid_57 : decode cX7_paid 57 = .ok (.imul, 1) := by decide +kernel
theorem dX7_paid_58 : decode cX7_paid 58 = .ok (.iload_n 3, 1) := by decide +kernel
theorem dX7_paid_59 : decode cX7_paid 59 = .ok (.iadd, 1) := by decide +kernel
theorem dX7_paid_60 : decode cX7_paid 60 = .ok (.iload 4, 2) := by decide +kernel
theorem dX7_paid_62 : decode cX7_paid 62 = .ok (.isub, 1) := by decide +kernel
theorem dX7_paid_63 : decode cX7_paid 63 = .ok (.ireturn, 1) := by decide +kernel
theorem dX7_mostOf_0 : decode cX7_mostOf 0 = .ok (.iconst 0, 1) := by decide +kernel
theorem dX7_mostOf_1 : decode cX7_mostOf 1 = .ok (.istore_n 3, 1) := by decide +kernel
theorem dX7_mostOf_2 : decode cX7_mostOf 2 = .ok (.iconst 0, 1) := by decide +kernel
theorem dX7_mostOf_3 : decode cX7_mostOf 3 = .ok (.istore 4, 2) := by decide +kernel
theorem dX7_mostOf_5 : decode cX7_mostOf 5 = .ok (.iload 4, 2) := by decide +kernel
theorem dX7_mostOf_7 : decode cX7_mostOf 7 = .ok (.bipush 6, 2) := by decide +kernel
theorem dX7_mostOf_9 : decode cX7_mostOf 9 = .ok (.aload_n 0, 1) := by decide +kernel
theorem dX7_mostOf_10 : decode cX7_mostOf 10 = .ok (.getfield 63, 3) := by decide +kernel
theorem dX7_mostOf_13 : decode cX7_mostOf 13 = .ok (.invokestatic 116, 3) := by decide +kernel
theorem dX7_mostOf_16 : decode cX7_mostOf 16 = .ok (.if_icmp .ge 83, 3) := by decide +kernel
theorem dX7_mostOf_19 : decode cX7_mostOf 19 = .ok (.aload_n 0, 1) := by decide +kernel
theorem dX7_mostOf_20 : decode cX7_mostOf 20 = .ok (.aload_n 1, 1) := by decide +kernel
theorem dX7_mostOf_21 : decode cX7_mostOf 21 = .ok (.iload 4, 2) := by decide +kernel
theorem dX7_mostOf_23 : decode cX7_mostOf 23 = .ok (.bipush 6, 2) := by decide +kernel
theorem dX7_mostOf_25 : decode cX7_mostOf 25 = .ok (.iload_n 2, 1) := by decide +kernel
theorem dX7_mostOf_26 : decode cX7_mostOf 26 = .ok (.invokevirtual 139, 3) := by decide +kernel
theorem dX7_mostOf_29 : decode cX7_mostOf 29 = .ok (.bipush (-9), 2) := by decide +kernel
theorem dX7_mostOf_31 : decode cX7_mostOf 31 = .ok (.if_icmp .eq 62, 3) := by decide +kernel
theorem dX7_mostOf_34 : decode cX7_mostOf 34 = .ok (.iconst 0, 1) := by decide +kernel
theorem dX7_mostOf_35 : decode cX7_mostOf 35 = .ok (.istore 5, 2) := by decide +kernel
theorem dX7_mostOf_37 : decode cX7_mostOf 37 = .ok (.iconst 0, 1) := by decide +kernel
theorem dX7_mostOf_38 : decode cX7_mostOf 38 = .ok (.istore 6, 2) := by decide +kernel
theorem dX7_mostOf_40 : decode cX7_mostOf 40 = .ok (.iload 6, 2) := by decide +kernel
theorem dX7_mostOf_42 : decode cX7_mostOf 42 = .ok (.aload_n 0, 1) := by decide +kernel
theorem dX7_mostOf_43 : decode cX7_mostOf 43 = .ok (.getfield 63, 3) := by decide +kernel
theorem dX7_mostOf_46 : decode cX7_mostOf 46 = .ok (.if_icmp .ge 34, 3) := by decide +kernel
theorem dX7_mostOf_49 : decode cX7_mostOf 49 = .ok (.iload 5, 2) := by decide +kernel
theorem dX7_mostOf_51 : decode cX7_mostOf 51 = .ok (.aload_n 0, 1) := by decide +kernel
theorem dX7_mostOf_52 : decode cX7_mostOf 52 = .ok (.iload 4, 2) := by decide +kernel
theorem dX7_mostOf_54 : decode cX7_mostOf 54 = .ok (.bipush 6, 2) := by decide +kernel
theorem dX7_mostOf_56 : decode cX7_mostOf 56 = .ok (.iload 6, 2) := by decide +kernel
theorem dX7_mostOf_58 : decode cX7_mostOf 58 = .ok (.invokevirtual 119, 3) := by decide +kernel
theorem dX7_mostOf_61 : decode cX7_mostOf 61 = .ok (.bipush 10, 2) := by decide +kernel
theorem dX7_mostOf_63 : decode cX7_mostOf 63 = .ok (.if_icmp .ne 7, 3) := by decide +kernel
theorem dX7_mostOf_66 : decode cX7_mostOf 66 = .ok (.iconst 0, 1) := by decide +kernel
theorem dX7_mostOf_67 : decode cX7_mostOf 67 = .ok (.goto 4, 3) := by decide +kernel
theorem dX7_mostOf_70 : decode cX7_mostOf 70 = .ok (.iconst 1, 1) := by decide +kernel
theorem dX7_mostOf_71 : decode cX7_mostOf 71 = .ok (.iadd, 1) := by decide +kernel
theorem dX7_mostOf_72 : decode cX7_mostOf 72 = .ok (.istore 5, 2) := by decide +kernel
theorem dX7_mostOf_74 : decode cX7_mostOf 74 = .ok (.iinc 6 1, 3) := by decide +kernel
theorem dX7_mostOf_77 : decode cX7_mostOf 77 = .ok (.goto (-37), 3) := by decide +kernel
theorem dX7_mostOf_80 : decode cX7_mostOf 80 = .ok (.iload 5, 2) := by decide +kernel
theorem dX7_mostOf_82 : decode cX7_mostOf 82 = .ok (.iload_n 3, 1) := by decide +kernel
theorem dX7_mostOf_83 : decode cX7_mostOf 83 = .ok (.if_icmp .le 8, 3) := by decide +kernel
theorem dX7_mostOf_86 : decode cX7_mostOf 86 = .ok (.iload 5, 2) := by decide +kernel
theorem dX7_mostOf_88 : decode cX7_mostOf 88 = .ok (.goto 4, 3) := by decide +kernel
theorem dX7_mostOf_91 : decode cX7_mostOf 91 = .ok (.iload_n 3, 1) := by decide +kernel
theorem dX7_mostOf_92 : decode cX7_mostOf 92 = .ok (.istore_n 3, 1) := by decide +kernel
theorem dX7_mostOf_93 : decode cX7_mostOf 93 = .ok (.iinc 4 1, 3) := by decide +kernel
theorem dX7_mostOf_96 : decode cX7_mostOf 96 = .ok (.goto (-91), 3) := by decide +kernel
theorem dX7_mostOf_99 : decode cX7_mostOf 99 = .ok (.iload_n 3, 1) := by decide +kernel
theorem dX7_mostOf_100 : decode cX7_mostOf 100 = .ok (.ireturn, 1) := by decide +kernel
theorem dX7_run_0 : decode cX7_run 0 = .ok (.aload_n 0, 1) := by decide +kernel
theorem dX7_run_1 : decode cX7_run 1 = .ok (.invokevirtual 157, 3) := by decide +kernel
theorem dX7_run_4 : decode cX7_run 4 = .ok (.aload_n 0, 1) := by decide +kernel
theorem dX7_run_5 : decode cX7_run 5 = .ok (.iconst 0, 1) := by decide +kernel
theorem dX7_run_6 : decode cX7_run 6 = .ok (.putfield 160, 3) := by decide +kernel
theorem dX7_run_9 : decode cX7_run 9 = .ok (.aload_n 0, 1) := by decide +kernel
theorem dX7_run_10 : decode cX7_run 10 = .ok (.bipush (-9), 2) := by decide +kernel
theorem dX7_run_12 : decode cX7_run 12 = .ok (.putfield 163, 3) := by decide +kernel
theorem dX7_run_15 : decode cX7_run 15 = .ok (.aload_n 0, 1) := by decide +kernel
theorem dX7_run_16 : decode cX7_run 16 = .ok (.iconst 0, 1) := by decide +kernel
theorem dX7_run_17 : decode cX7_run 17 = .ok (.putfield 166, 3) := by decide +kernel
theorem dX7_run_20 : decode cX7_run 20 = .ok (.aload_n 0, 1) := by decide +kernel
theorem dX7_run_21 : decode cX7_run 21 = .ok (.getfield 63, 3) := by decide +kernel
theorem dX7_run_24 : decode cX7_run 24 = .ok (.ifCond .le 7, 3) := by decide +kernel
theorem dX7_run_27 : decode cX7_run 27 = .ok (.iconst 1, 1) := by decide +kernel
theorem dX7_run_28 : decode cX7_run 28 = .ok (.goto 4, 3) := by decide +kernel
theorem dX7_run_31 : decode cX7_run 31 = .ok (.iconst 0, 1) := by decide +kernel
theorem dX7_run_32 : decode cX7_run 32 = .ok (.istore_n 1, 1) := by decide +kernel
theorem dX7_run_33 : decode cX7_run 33 = .ok (.iconst 0, 1) := by decide +kernel
theorem dX7_run_34 : decode cX7_run 34 = .ok (.istore_n 2, 1) := by decide +kernel
theorem dX7_run_35 : decode cX7_run 35 = .ok (.iload_n 2, 1) := by decide +kernel
theorem dX7_run_36 : decode cX7_run 36 = .ok (.bipush 40, 2) := by decide +kernel
theorem dX7_run_38 : decode cX7_run 38 = .ok (.if_icmp .ge 158, 3) := by decide +kernel
theorem dX7_run_41 : decode cX7_run 41 = .ok (.iload_n 1, 1) := by decide +kernel
theorem dX7_run_42 : decode cX7_run 42 = .ok (.ifCond .eq 154, 3) := by decide +kernel
theorem dX7_run_45 : decode cX7_run 45 = .ok (.aload_n 0, 1) := by decide +kernel
theorem dX7_run_46 : decode cX7_run 46 = .ok (.aload_n 0, 1) := by decide +kernel
theorem dX7_run_47 : decode cX7_run 47 = .ok (.getfield 22, 3) := by decide +kernel
theorem dX7_run_50 : decode cX7_run 50 = .ok (.aload_n 0, 1) := by decide +kernel
theorem dX7_run_51 : decode cX7_run 51 = .ok (.invokevirtual 147, 3) := by decide +kernel
theorem dX7_run_54 : decode cX7_run 54 = .ok (.invokevirtual 143, 3) := by decide +kernel
theorem dX7_run_57 : decode cX7_run 57 = .ok (.aload_n 0, 1) := by decide +kernel
theorem dX7_run_58 : decode cX7_run 58 = .ok (.getfield 133, 3) := by decide +kernel
theorem dX7_run_61 : decode cX7_run 61 = .ok (.bipush (-9), 2) := by decide +kernel
theorem dX7_run_63 : decode cX7_run 63 = .ok (.if_icmp .eq 7, 3) := by decide +kernel
theorem dX7_run_66 : decode cX7_run 66 = .ok (.iconst 1, 1) := by decide +kernel
theorem dX7_run_67 : decode cX7_run 67 = .ok (.goto 4, 3) := by decide +kernel
theorem dX7_run_70 : decode cX7_run 70 = .ok (.iconst 0, 1) := by decide +kernel
theorem dX7_run_71 : decode cX7_run 71 = .ok (.istore_n 1, 1) := by decide +kernel
theorem dX7_run_72 : decode cX7_run 72 = .ok (.iload_n 1, 1) := by decide +kernel
theorem dX7_run_73 : decode cX7_run 73 = .ok (.ifCond .eq 117, 3) := by decide +kernel
theorem dX7_run_76 : decode cX7_run 76 = .ok (.iconst 0, 1) := by decide +kernel
theorem dX7_run_77 : decode cX7_run 77 = .ok (.istore_n 3, 1) := by decide +kernel
theorem dX7_run_78 : decode cX7_run 78 = .ok (.iload_n 3, 1) := by decide +kernel
theorem dX7_run_79 : decode cX7_run 79 = .ok (.aload_n 0, 1) := by decide +kernel
theorem dX7_run_80 : decode cX7_run 80 = .ok (.getfield 63, 3) := by decide +kernel
theorem dX7_run_83 : decode cX7_run 83 = .ok (.if_icmp .ge 48, 3) := by decide +kernel
theorem dX7_run_86 : decode cX7_run 86 = .ok (.aload_n 0, 1) := by decide +kernel
theorem dX7_run_87 : decode cX7_run 87 = .ok (.aload_n 0, 1) := by decide +kernel
theorem dX7_run_88 : decode cX7_run 88 = .ok (.getfield 163, 3) := by decide +kernel
theorem dX7_run_91 : decode cX7_run 91 = .ok (.bipush (-9), 2) := by decide +kernel
theorem dX7_run_93 : decode cX7_run 93 = .ok (.if_icmp .ne 25, 3) := by decide +kernel
theorem dX7_run_96 : decode cX7_run 96 = .ok (.aload_n 0, 1) := by decide +kernel
theorem dX7_run_97 : decode cX7_run 97 = .ok (.aload_n 0, 1) := by decide +kernel
theorem dX7_run_98 : decode cX7_run 98 = .ok (.getfield 136, 3) := by decide +kernel
theorem dX7_run_101 : decode cX7_run 101 = .ok (.iconst 5, 1) := by decide +kernel
theorem dX7_run_102 : decode cX7_run 102 = .ok (.iload_n 3, 1) := by decide +kernel
theorem dX7_run_103 : decode cX7_run 103 = .ok (.invokevirtual 119, 3) := by decide +kernel
theorem dX7_run_106 : decode cX7_run 106 = .ok (.bipush 9, 2) := by decide +kernel
theorem dX7_run_108 : decode cX7_run 108 = .ok (.if_icmp .ne 10, 3) := by decide +kernel
theorem dX7_run_111 : decode cX7_run 111 = .ok (.aload_n 0, 1) := by decide +kernel
theorem dX7_run_112 : decode cX7_run 112 = .ok (.getfield 160, 3) := by decide +kernel
theorem dX7_run_115 : decode cX7_run 115 = .ok (.goto 7, 3) := by decide +kernel
theorem dX7_run_118 : decode cX7_run 118 = .ok (.aload_n 0, 1) := by decide +kernel
theorem dX7_run_119 : decode cX7_run 119 = .ok (.getfield 163, 3) := by decide +kernel
theorem dX7_run_122 : decode cX7_run 122 = .ok (.putfield 163, 3) := by decide +kernel
theorem dX7_run_125 : decode cX7_run 125 = .ok (.iinc 3 1, 3) := by decide +kernel
theorem dX7_run_128 : decode cX7_run 128 = .ok (.goto (-50), 3) := by decide +kernel
theorem dX7_run_131 : decode cX7_run 131 = .ok (.iconst 0, 1) := by decide +kernel
theorem dX7_run_132 : decode cX7_run 132 = .ok (.istore_n 3, 1) := by decide +kernel
theorem dX7_run_133 : decode cX7_run 133 = .ok (.iload_n 3, 1) := by decide +kernel
theorem dX7_run_134 : decode cX7_run 134 = .ok (.aload_n 0, 1) := by decide +kernel
theorem dX7_run_135 : decode cX7_run 135 = .ok (.getfield 71, 3) := by decide +kernel
theorem dX7_run_138 : decode cX7_run 138 = .ok (.if_icmp .ge 29, 3) := by decide +kernel
theorem dX7_run_141 : decode cX7_run 141 = .ok (.aload_n 0, 1) := by decide +kernel
theorem dX7_run_142 : decode cX7_run 142 = .ok (.getfield 22, 3) := by decide +kernel
theorem dX7_run_145 : decode cX7_run 145 = .ok (.iconst 4, 1) := by decide +kernel
theorem dX7_run_146 : decode cX7_run 146 = .ok (.iload_n 3, 1) := by decide +kernel
theorem dX7_run_147 : decode cX7_run 147 = .ok (.iadd, 1) := by decide +kernel
theorem dX7_run_148 : decode cX7_run 148 = .ok (.dup2, 1) := by decide +kernel
theorem dX7_run_149 : decode cX7_run 149 = .ok (.iaload, 1) := by decide +kernel
theorem dX7_run_150 : decode cX7_run 150 = .ok (.aload_n 0, 1) := by decide +kernel
theorem dX7_run_151 : decode cX7_run 151 = .ok (.aload_n 0, 1) := by decide +kernel
theorem dX7_run_152 : decode cX7_run 152 = .ok (.getfield 22, 3) := by decide +kernel
theorem dX7_run_155 : decode cX7_run 155 = .ok (.iload_n 3, 1) := by decide +kernel
theorem dX7_run_156 : decode cX7_run 156 = .ok (.invokevirtual 154, 3) := by decide +kernel
theorem dX7_run_159 : decode cX7_run 159 = .ok (.isub, 1) := by decide +kernel
theorem dX7_run_160 : decode cX7_run 160 = .ok (.iastore, 1) := by decide +kernel
theorem dX7_run_161 : decode cX7_run 161 = .ok (.iinc 3 1, 3) := by decide +kernel
theorem dX7_run_164 : decode cX7_run 164 = .ok (.goto (-31), 3) := by decide +kernel
theorem dX7_run_167 : decode cX7_run 167 = .ok (.aload_n 0, 1) := by decide +kernel
theorem dX7_run_168 : decode cX7_run 168 = .ok (.dup, 1) := by decide +kernel
theorem dX7_run_169 : decode cX7_run 169 = .ok (.getfield 166, 3) := by decide +kernel
theorem dX7_run_172 : decode cX7_run 172 = .ok (.aload_n 0, 1) := by decide +kernel
theorem dX7_run_173 : decode cX7_run 173 = .ok (.getfield 133, 3) := by decide +kernel
theorem dX7_run_176 : decode cX7_run 176 = .ok (.iadd, 1) := by decide +kernel
theorem dX7_run_177 : decode cX7_run 177 = .ok (.putfield 166, 3) := by decide +kernel
theorem dX7_run_180 : decode cX7_run 180 = .ok (.aload_n 0, 1) := by decide +kernel
theorem dX7_run_181 : decode cX7_run 181 = .ok (.dup, 1) := by decide +kernel
theorem dX7_run_182 : decode cX7_run 182 = .ok (.getfield 160, 3) := by decide +kernel
theorem dX7_run_185 : decode cX7_run 185 = .ok (.iconst 1, 1) := by decide +kernel
theorem dX7_run_186 : decode cX7_run 186 = .ok (.iadd, 1) := by decide +kernel
theorem dX7_run_187 : decode cX7_run 187 = .ok (.putfield 160, 3) := by decide +kernel
theorem dX7_run_190 : decode cX7_run 190 = .ok (.iinc 2 1, 3) := by decide +kernel
theorem dX7_run_193 : decode cX7_run 193 = .ok (.goto (-158), 3) := by decide +kernel
theorem dX7_run_196 : decode cX7_run 196 = .ok (.return_, 1) := by decide +kernel
theorem dX7_layTrial_0 : decode cX7_layTrial 0 = .ok (.iconst 0, 1) := by decide +kernel
theorem dX7_layTrial_1 : decode cX7_layTrial 1 = .ok (.istore_n 1, 1) := by decide +kernel
theorem dX7_layTrial_2 : decode cX7_layTrial 2 = .ok (.iload_n 1, 1) := by decide +kernel
theorem dX7_layTrial_3 : decode cX7_layTrial 3 = .ok (.bipush 13, 2) := by decide +kernel
theorem dX7_layTrial_5 : decode cX7_layTrial 5 = .ok (.if_icmp .ge 21, 3) := by decide +kernel
theorem dX7_layTrial_8 : decode cX7_layTrial 8 = .ok (.aload_n 0, 1) := by decide +kernel
theorem dX7_layTrial_9 : decode cX7_layTrial 9 = .ok (.getfield 22, 3) := by decide +kernel
theorem dX7_layTrial_12 : decode cX7_layTrial 12 = .ok (.iload_n 1, 1) := by decide +kernel
theorem dX7_layTrial_13 : decode cX7_layTrial 13 = .ok (.aload_n 0, 1) := by decide +kernel
theorem dX7_layTrial_14 : decode cX7_layTrial 14 = .ok (.getfield 19, 3) := by decide +kernel
theorem dX7_layTrial_17 : decode cX7_layTrial 17 = .ok (.iload_n 1, 1) := by decide +kernel
theorem dX7_layTrial_18 : decode cX7_layTrial 18 = .ok (.iaload, 1) := by decide +kernel
theorem dX7_layTrial_19 : decode cX7_layTrial 19 = .ok (.iastore, 1) := by decide +kernel
theorem dX7_layTrial_20 : decode cX7_layTrial 20 = .ok (.iinc 1 1, 3) := by decide +kernel
theorem dX7_layTrial_23 : decode cX7_layTrial 23 = .ok (.goto (-21), 3) := by decide +kernel
theorem dX7_layTrial_26 : decode cX7_layTrial 26 = .ok (.return_, 1) := by decide +kernel
theorem dX7_about_0 : decode cX7_about 0 = .ok (.iload_n 1, 1) := by decide +kernel
theorem dX7_about_1 : decode cX7_about 1 = .ok (.tableswitch 119 0 8 #[51, 56, 61, 69, 82, 95, 104, 109, 114], 51) := by decide +kernel
theorem dX7_about_52 : decode cX7_about 52 = .ok (.aload_n 0, 1) := by decide +kernel
theorem dX7_about_53 : decode cX7_about 53 = .ok (.getfield 63, 3) := by decide +kernel
theorem dX7_about_56 : decode cX7_about 56 = .ok (.ireturn, 1) := by decide +kernel
theorem dX7_about_57 : decode cX7_about 57 = .ok (.aload_n 0, 1) := by decide +kernel
theorem dX7_about_58 : decode cX7_about 58 = .ok (.getfield 71, 3) := by decide +kernel
theorem dX7_about_61 : decode cX7_about 61 = .ok (.ireturn, 1) := by decide +kernel
theorem dX7_about_62 : decode cX7_about 62 = .ok (.aload_n 0, 1) := by decide +kernel
theorem dX7_about_63 : decode cX7_about 63 = .ok (.getfield 19, 3) := by decide +kernel
theorem dX7_about_66 : decode cX7_about 66 = .ok (.bipush 12, 2) := by decide +kernel
theorem dX7_about_68 : decode cX7_about 68 = .ok (.iaload, 1) := by decide +kernel
theorem dX7_about_69 : decode cX7_about 69 = .ok (.ireturn, 1) := by decide +kernel
theorem dX7_about_70 : decode cX7_about 70 = .ok (.aload_n 0, 1) := by decide +kernel
theorem dX7_about_71 : decode cX7_about 71 = .ok (.aload_n 0, 1) := by decide +kernel
theorem dX7_about_72 : decode cX7_about 72 = .ok (.getfield 19, 3) := by decide +kernel
theorem dX7_about_75 : decode cX7_about 75 = .ok (.aload_n 0, 1) := by decide +kernel
theorem dX7_about_76 : decode cX7_about 76 = .ok (.invokevirtual 147, 3) := by decide +kernel
theorem dX7_about_79 : decode cX7_about 79 = .ok (.invokevirtual 150, 3) := by decide +kernel
theorem dX7_about_82 : decode cX7_about 82 = .ok (.ireturn, 1) := by decide +kernel
theorem dX7_about_83 : decode cX7_about 83 = .ok (.aload_n 0, 1) := by decide +kernel
theorem dX7_about_84 : decode cX7_about 84 = .ok (.aload_n 0, 1) := by decide +kernel
theorem dX7_about_85 : decode cX7_about 85 = .ok (.getfield 19, 3) := by decide +kernel
theorem dX7_about_88 : decode cX7_about 88 = .ok (.aload_n 0, 1) := by decide +kernel
theorem dX7_about_89 : decode cX7_about 89 = .ok (.invokevirtual 147, 3) := by decide +kernel
theorem dX7_about_92 : decode cX7_about 92 = .ok (.invokevirtual 169, 3) := by decide +kernel
theorem dX7_about_95 : decode cX7_about 95 = .ok (.ireturn, 1) := by decide +kernel
theorem dX7_about_96 : decode cX7_about 96 = .ok (.aload_n 0, 1) := by decide +kernel
theorem dX7_about_97 : decode cX7_about 97 = .ok (.invokevirtual 172, 3) := by decide +kernel
theorem dX7_about_100 : decode cX7_about 100 = .ok (.aload_n 0, 1) := by decide +kernel
theorem dX7_about_101 : decode cX7_about 101 = .ok (.getfield 160, 3) := by decide +kernel
theorem dX7_about_104 : decode cX7_about 104 = .ok (.ireturn, 1) := by decide +kernel
theorem dX7_about_105 : decode cX7_about 105 = .ok (.aload_n 0, 1) := by decide +kernel
theorem dX7_about_106 : decode cX7_about 106 = .ok (.getfield 113, 3) := by decide +kernel
theorem dX7_about_109 : decode cX7_about 109 = .ok (.ireturn, 1) := by decide +kernel
theorem dX7_about_110 : decode cX7_about 110 = .ok (.aload_n 0, 1) := by decide +kernel
theorem dX7_about_111 : decode cX7_about 111 = .ok (.getfield 175, 3) := by decide +kernel
theorem dX7_about_114 : decode cX7_about 114 = .ok (.ireturn, 1) := by decide +kernel
theorem dX7_about_115 : decode cX7_about 115 = .ok (.aload_n 0, 1) := by decide +kernel
theorem dX7_about_116 : decode cX7_about 116 = .ok (.getfield 76, 3) := by decide +kernel
theorem dX7_about_119 : decode cX7_about 119 = .ok (.ireturn, 1) := by decide +kernel
theorem dX7_about_120 : decode cX7_about 120 = .ok (.bipush (-2), 2) := by decide +kernel
theorem dX7_about_122 : decode cX7_about 122 = .ok (.ireturn, 1) := by decide +kernel
theorem dX7_field_0 : decode cX7_field 0 = .ok (.aload_n 0, 1) := by decide +kernel
theorem dX7_field_1 : decode cX7_field 1 = .ok (.iload_n 1, 1) := by decide +kernel
theorem dX7_field_2 : decode cX7_field 2 = .ok (.invokevirtual 178, 3) := by decide +kernel
theorem dX7_field_5 : decode cX7_field 5 = .ok (.ifCond .ne 5, 3) := by decide +kernel
theorem dX7_field_8 : decode cX7_field 8 = .ok (.iconst (-1), 1) := by decide +kernel
theorem dX7_field_9 : decode cX7_field 9 = .ok (.ireturn, 1) := by decide +kernel
theorem dX7_field_10 : decode cX7_field 10 = .ok (.iload_n 2, 1) := by decide +kernel
theorem dX7_field_11 : decode cX7_field 11 = .ok (.tableswitch 72 0 2 #[25, 32, 39], 25) := by decide +kernel
theorem dX7_field_36 : decode cX7_field 36 = .ok (.aload_n 0, 1) := by decide +kernel
theorem dX7_field_37 : decode cX7_field 37 = .ok (.getfield 13, 3) := by decide +kernel
theorem dX7_field_40 : decode cX7_field 40 = .ok (.iload_n 1, 1) := by decide +kernel
theorem dX7_field_41 : decode cX7_field 41 = .ok (.iaload, 1) := by decide +kernel
theorem dX7_field_42 : decode cX7_field 42 = .ok (.ireturn, 1) := by decide +kernel
theorem dX7_field_43 : decode cX7_field 43 = .ok (.aload_n 0, 1) := by decide +kernel
theorem dX7_field_44 : decode cX7_field 44 = .ok (.getfield 19, 3) := by decide +kernel
theorem dX7_field_47 : decode cX7_field 47 = .ok (.iload_n 1, 1) := by decide +kernel
theorem dX7_field_48 : decode cX7_field 48 = .ok (.iaload, 1) := by decide +kernel
theorem dX7_field_49 : decode cX7_field 49 = .ok (.ireturn, 1) := by decide +kernel
theorem dX7_field_50 : decode cX7_field 50 = .ok (.aload_n 0, 1) := by decide +kernel
theorem dX7_field_51 : decode cX7_field 51 = .ok (.aload_n 0, 1) := by decide +kernel
theorem dX7_field_52 : decode cX7_field 52 = .ok (.getfield 19, 3) := by decide +kernel
theorem dX7_field_55 : decode cX7_field 55 = .ok (.aload_n 0, 1) := by decide +kernel
theorem dX7_field_56 : decode cX7_field 56 = .ok (.invokevirtual 147, 3) := by decide +kernel
theorem dX7_field_59 : decode cX7_field 59 = .ok (.invokevirtual 150, 3) := by decide +kernel
theorem dX7_field_62 : decode cX7_field 62 = .ok (.bipush (-9), 2) := by decide +kernel
theorem dX7_field_64 : decode cX7_field 64 = .ok (.if_icmp .ne 8, 3) := by decide +kernel
theorem dX7_field_67 : decode cX7_field 67 = .ok (.bipush (-9), 2) := by decide +kernel
theorem dX7_field_69 : decode cX7_field 69 = .ok (.goto 13, 3) := by decide +kernel
theorem dX7_field_72 : decode cX7_field 72 = .ok (.aload_n 0, 1) := by decide +kernel
theorem dX7_field_73 : decode cX7_field 73 = .ok (.aload_n 0, 1) := by decide +kernel
theorem dX7_field_74 : decode cX7_field 74 = .ok (.getfield 136, 3) := by decide +kernel
theorem dX7_field_77 : decode cX7_field 77 = .ok (.iconst 5, 1) := by decide +kernel
theorem dX7_field_78 : decode cX7_field 78 = .ok (.iload_n 1, 1) := by decide +kernel
theorem dX7_field_79 : decode cX7_field 79 = .ok (.invokevirtual 119, 3) := by decide +kernel
theorem dX7_field_82 : decode cX7_field 82 = .ok (.ireturn, 1) := by decide +kernel
theorem dX7_field_83 : decode cX7_field 83 = .ok (.bipush (-2), 2) := by decide +kernel
theorem dX7_field_85 : decode cX7_field 85 = .ok (.ireturn, 1) := by decide +kernel
theorem dX7_maker_0 : decode cX7_maker 0 = .ok (.aload_n 0, 1) := by decide +kernel
theorem dX7_maker_1 : decode cX7_maker 1 = .ok (.iload_n 1, 1) := by decide +kernel
theorem dX7_maker_2 : decode cX7_maker 2 = .ok (.invokevirtual 123, 3) := by decide +kernel
theorem dX7_maker_5 : decode cX7_maker 5 = .ok (.ifCond .ne 5, 3) := by decide +kernel
theorem dX7_maker_8 : decode cX7_maker 8 = .ok (.iconst (-1), 1) := by decide +kernel
theorem dX7_maker_9 : decode cX7_maker 9 = .ok (.ireturn, 1) := by decide +kernel
theorem dX7_maker_10 : decode cX7_maker 10 = .ok (.iload_n 2, 1) := by decide +kernel
theorem dX7_maker_11 : decode cX7_maker 11 = .ok (.tableswitch 101 0 4 #[33, 40, 49, 59, 91], 33) := by decide +kernel
theorem dX7_maker_44 : decode cX7_maker 44 = .ok (.aload_n 0, 1) := by decide +kernel
theorem dX7_maker_45 : decode cX7_maker 45 = .ok (.getfield 16, 3) := by decide +kernel
theorem dX7_maker_48 : decode cX7_maker 48 = .ok (.iload_n 1, 1) := by decide +kernel
theorem dX7_maker_49 : decode cX7_maker 49 = .ok (.iaload, 1) := by decide +kernel
theorem dX7_maker_50 : decode cX7_maker 50 = .ok (.ireturn, 1) := by decide +kernel
theorem dX7_maker_51 : decode cX7_maker 51 = .ok (.aload_n 0, 1) := by decide +kernel
theorem dX7_maker_52 : decode cX7_maker 52 = .ok (.getfield 19, 3) := by decide +kernel
theorem dX7_maker_55 : decode cX7_maker 55 = .ok (.iconst 4, 1) := by decide +kernel
theorem dX7_maker_56 : decode cX7_maker 56 = .ok (.iload_n 1, 1) := by decide +kernel
theorem dX7_maker_57 : decode cX7_maker 57 = .ok (.iadd, 1) := by decide +kernel
theorem dX7_maker_58 : decode cX7_maker 58 = .ok (.iaload, 1) := by decide +kernel
theorem dX7_maker_59 : decode cX7_maker 59 = .ok (.ireturn, 1) := by decide +kernel
theorem dX7_maker_60 : decode cX7_maker 60 = .ok (.aload_n 0, 1) := by decide +kernel
theorem dX7_maker_61 : decode cX7_maker 61 = .ok (.getfield 19, 3) := by decide +kernel
theorem dX7_maker_64 : decode cX7_maker 64 = .ok (.bipush 8, 2) := by decide +kernel
theorem dX7_maker_66 : decode cX7_maker 66 = .ok (.iload_n 1, 1) := by decide +kernel
theorem dX7_maker_67 : decode cX7_maker 67 = .ok (.iadd, 1) := by decide +kernel
theorem dX7_maker_68 : decode cX7_maker 68 = .ok (.iaload, 1) := by decide +kernel
theorem dX7_maker_69 : decode cX7_maker 69 = .ok (.ireturn, 1) := by decide +kernel
theorem dX7_maker_70 : decode cX7_maker 70 = .ok (.aload_n 0, 1) := by decide +kernel
theorem dX7_maker_71 : decode cX7_maker 71 = .ok (.aload_n 0, 1) := by decide +kernel
theorem dX7_maker_72 : decode cX7_maker 72 = .ok (.getfield 19, 3) := by decide +kernel
theorem dX7_maker_75 : decode cX7_maker 75 = .ok (.aload_n 0, 1) := by decide +kernel
theorem dX7_maker_76 : decode cX7_maker 76 = .ok (.invokevirtual 147, 3) := by decide +kernel
theorem dX7_maker_79 : decode cX7_maker 79 = .ok (.invokevirtual 150, 3) := by decide +kernel
theorem dX7_maker_82 : decode cX7_maker 82 = .ok (.bipush (-9), 2) := by decide +kernel
theorem dX7_maker_84 : decode cX7_maker 84 = .ok (.if_icmp .ne 8, 3) := by decide +kernel
theorem dX7_maker_87 : decode cX7_maker 87 = .ok (.bipush (-9), 2) := by decide +kernel
theorem dX7_maker_89 : decode cX7_maker 89 = .ok (.goto 12, 3) := by decide +kernel
theorem dX7_maker_92 : decode cX7_maker 92 = .ok (.aload_n 0, 1) := by decide +kernel
theorem dX7_maker_93 : decode cX7_maker 93 = .ok (.aload_n 0, 1) := by decide +kernel
theorem dX7_maker_94 : decode cX7_maker 94 = .ok (.getfield 19, 3) := by decide +kernel
theorem dX7_maker_97 : decode cX7_maker 97 = .ok (.iload_n 1, 1) := by decide +kernel
theorem dX7_maker_98 : decode cX7_maker 98 = .ok (.invokevirtual 154, 3) := by decide +kernel
theorem dX7_maker_101 : decode cX7_maker 101 = .ok (.ireturn, 1) := by decide +kernel
theorem dX7_maker_102 : decode cX7_maker 102 = .ok (.aload_n 0, 1) := by decide +kernel
theorem dX7_maker_103 : decode cX7_maker 103 = .ok (.aload_n 0, 1) := by decide +kernel
theorem dX7_maker_104 : decode cX7_maker 104 = .ok (.getfield 19, 3) := by decide +kernel
theorem dX7_maker_107 : decode cX7_maker 107 = .ok (.iload_n 1, 1) := by decide +kernel
theorem dX7_maker_108 : decode cX7_maker 108 = .ok (.invokevirtual 181, 3) := by decide +kernel
theorem dX7_maker_111 : decode cX7_maker 111 = .ok (.ireturn, 1) := by decide +kernel
theorem dX7_maker_112 : decode cX7_maker 112 = .ok (.bipush (-2), 2) := by decide +kernel
theorem dX7_maker_114 : decode cX7_maker 114 = .ok (.ireturn, 1) := by decide +kernel
theorem dX7_change_0 : decode cX7_change 0 = .ok (.iconst 0, 1) := by decide +kernel
theorem dX7_change_1 : decode cX7_change 1 = .ok (.istore_n 3, 1) := by decide +kernel
theorem dX7_change_2 : decode cX7_change 2 = .ok (.iload_n 3, 1) := by decide +kernel
theorem dX7_change_3 : decode cX7_change 3 = .ok (.bipush 13, 2) := by decide +kernel
theorem dX7_change_5 : decode cX7_change 5 = .ok (.if_icmp .ge 29, 3) := by decide +kernel
theorem dX7_change_8 : decode cX7_change 8 = .ok (.aload_n 0, 1) := by decide +kernel
theorem dX7_change_9 : decode cX7_change 9 = .ok (.getfield 25, 3) := by decide +kernel
theorem dX7_change_12 : decode cX7_change 12 = .ok (.bipush 13, 2) := by decide +kernel
theorem dX7_change_14 : decode cX7_change 14 = .ok (.aload_n 0, 1) := by decide +kernel
theorem dX7_change_15 : decode cX7_change 15 = .ok (.getfield 184, 3) := by decide +kernel
theorem dX7_change_18 : decode cX7_change 18 = .ok (.imul, 1) := by decide +kernel
theorem dX7_change_19 : decode cX7_change 19 = .ok (.iload_n 3, 1) := by decide +kernel
theorem dX7_change_20 : decode cX7_change 20 = .ok (.iadd, 1) := by decide +kernel
theorem dX7_change_21 : decode cX7_change 21 = .ok (.aload_n 0, 1) := by decide +kernel
theorem dX7_change_22 : decode cX7_change 22 = .ok (.getfield 19, 3) := by decide +kernel
theorem dX7_change_25 : decode cX7_change 25 = .ok (.iload_n 3, 1) := by decide +kernel
theorem dX7_change_26 : decode cX7_change 26 = .ok (.iaload, 1) := by decide +kernel
theorem dX7_change_27 : decode cX7_change 27 = .ok (.iastore, 1) := by decide +kernel
theorem dX7_change_28 : decode cX7_change 28 = .ok (.iinc 3 1, 3) := by decide +kernel
theorem dX7_change_31 : decode cX7_change 31 = .ok (.goto (-29), 3) := by decide +kernel
theorem dX7_change_34 : decode cX7_change 34 = .ok (.aload_n 0, 1) := by decide +kernel
theorem dX7_change_35 : decode cX7_change 35 = .ok (.aload_n 0, 1) := by decide +kernel
theorem dX7_change_36 : decode cX7_change 36 = .ok (.getfield 184, 3) := by decide +kernel
theorem dX7_change_39 : decode cX7_change 39 = .ok (.iconst 1, 1) := by decide +kernel
theorem dX7_change_40 : decode cX7_change 40 = .ok (.iadd, 1) := by decide +kernel
theorem dX7_change_41 : decode cX7_change 41 = .ok (.bipush 14, 2) := by decide +kernel
theorem dX7_change_43 : decode cX7_change 43 = .ok (.irem, 1) := by decide +kernel
theorem dX7_change_44 : decode cX7_change 44 = .ok (.putfield 184, 3) := by decide +kernel
theorem dX7_change_47 : decode cX7_change 47 = .ok (.aload_n 0, 1) := by decide +kernel
theorem dX7_change_48 : decode cX7_change 48 = .ok (.aload_n 0, 1) := by decide +kernel
theorem dX7_change_49 : decode cX7_change 49 = .ok (.getfield 113, 3) := by decide +kernel
theorem dX7_change_52 : decode cX7_change 52 = .ok (.bipush 14, 2) := by decide +kernel
theorem dX7_change_54 : decode cX7_change 54 = .ok (.if_icmp .ge 12, 3) := by decide +kernel
theorem dX7_change_57 : decode cX7_change 57 = .ok (.aload_n 0, 1) := by decide +kernel
theorem dX7_change_58 : decode cX7_change 58 = .ok (.getfield 113, 3) := by decide +kernel
theorem dX7_change_61 : decode cX7_change 61 = .ok (.iconst 1, 1) := by decide +kernel
theorem dX7_change_62 : decode cX7_change 62 = .ok (.iadd, 1) := by decide +kernel
theorem dX7_change_63 : decode cX7_change 63 = .ok (.goto 5, 3) := by decide +kernel
theorem dX7_change_66 : decode cX7_change 66 = .ok (.bipush 14, 2) := by decide +kernel
theorem dX7_change_68 : decode cX7_change 68 = .ok (.putfield 113, 3) := by decide +kernel
theorem dX7_change_71 : decode cX7_change 71 = .ok (.aload_n 0, 1) := by decide +kernel
theorem dX7_change_72 : decode cX7_change 72 = .ok (.getfield 19, 3) := by decide +kernel
theorem dX7_change_75 : decode cX7_change 75 = .ok (.iload_n 1, 1) := by decide +kernel
theorem dX7_change_76 : decode cX7_change 76 = .ok (.iload_n 2, 1) := by decide +kernel
theorem dX7_change_77 : decode cX7_change 77 = .ok (.iastore, 1) := by decide +kernel
theorem dX7_change_78 : decode cX7_change 78 = .ok (.return_, 1) := by decide +kernel
theorem dX7_reprice_0 : decode cX7_reprice 0 = .ok (.aload_n 0, 1) := by decide +kernel
theorem dX7_reprice_1 : decode cX7_reprice 1 = .ok (.iload_n 1, 1) := by decide +kernel
theorem dX7_reprice_2 : decode cX7_reprice 2 = .ok (.invokevirtual 123, 3) := by decide +kernel
theorem dX7_reprice_5 : decode cX7_reprice 5 = .ok (.ifCond .ne 5, 3) := by decide +kernel
theorem dX7_reprice_8 : decode cX7_reprice 8 = .ok (.iconst (-1), 1) := by decide +kernel
theorem dX7_reprice_9 : decode cX7_reprice 9 = .ok (.ireturn, 1) := by decide +kernel
theorem dX7_reprice_10 : decode cX7_reprice 10 = .ok (.iload_n 2, 1) := by decide +kernel
theorem dX7_reprice_11 : decode cX7_reprice 11 = .ok (.i2l, 1) := by decide +kernel
theorem dX7_reprice_12 : decode cX7_reprice 12 = .ok (.lconst 0, 1) := by decide +kernel
theorem dX7_reprice_13 : decode cX7_reprice 13 = .ok (.ldc2_w 187, 3) := by decide +kernel
theorem dX7_reprice_16 : decode cX7_reprice 16 = .ok (.invokestatic 67, 3) := by decide +kernel
theorem dX7_reprice_19 : decode cX7_reprice 19 = .ok (.ifCond .ne 6, 3) := by decide +kernel
theorem dX7_reprice_22 : decode cX7_reprice 22 = .ok (.bipush (-2), 2) := by decide +kernel
theorem dX7_reprice_24 : decode cX7_reprice 24 = .ok (.ireturn, 1) := by decide +kernel
theorem dX7_reprice_25 : decode cX7_reprice 25 = .ok (.aload_n 0, 1) := by decide +kernel
theorem dX7_reprice_26 : decode cX7_reprice 26 = .ok (.getfield 19, 3) := by decide +kernel
theorem dX7_reprice_29 : decode cX7_reprice 29 = .ok (.bipush 8, 2) := by decide +kernel
theorem dX7_reprice_31 : decode cX7_reprice 31 = .ok (.iload_n 1, 1) := by decide +kernel
theorem dX7_reprice_32 : decode cX7_reprice 32 = .ok (.iadd, 1) := by decide +kernel
theorem dX7_reprice_33 : decode cX7_reprice 33 = .ok (.iaload, 1) := by decide +kernel
theorem dX7_reprice_34 : decode cX7_reprice 34 = .ok (.istore_n 3, 1) := by decide +kernel
theorem dX7_reprice_35 : decode cX7_reprice 35 = .ok (.aload_n 0, 1) := by decide +kernel
theorem dX7_reprice_36 : decode cX7_reprice 36 = .ok (.bipush 8, 2) := by decide +kernel
theorem dX7_reprice_38 : decode cX7_reprice 38 = .ok (.iload_n 1, 1) := by decide +kernel
theorem dX7_reprice_39 : decode cX7_reprice 39 = .ok (.iadd, 1) := by decide +kernel
theorem dX7_reprice_40 : decode cX7_reprice 40 = .ok (.iload_n 2, 1) := by decide +kernel
theorem dX7_reprice_41 : decode cX7_reprice 41 = .ok (.invokevirtual 189, 3) := by decide +kernel
theorem dX7_reprice_44 : decode cX7_reprice 44 = .ok (.iload_n 3, 1) := by decide +kernel
theorem dX7_reprice_45 : decode cX7_reprice 45 = .ok (.ireturn, 1) := by decide +kernel
theorem dX7_restock_0 : decode cX7_restock 0 = .ok (.aload_n 0, 1) := by decide +kernel
theorem dX7_restock_1 : decode cX7_restock 1 = .ok (.iload_n 1, 1) := by decide +kernel
theorem dX7_restock_2 : decode cX7_restock 2 = .ok (.invokevirtual 123, 3) := by decide +kernel
theorem dX7_restock_5 : decode cX7_restock 5 = .ok (.ifCond .ne 5, 3) := by decide +kernel
theorem dX7_restock_8 : decode cX7_restock 8 = .ok (.iconst (-1), 1) := by decide +kernel
theorem dX7_restock_9 : decode cX7_restock 9 = .ok (.ireturn, 1) := by decide +kernel
theorem dX7_restock_10 : decode cX7_restock 10 = .ok (.iload_n 2, 1) := by decide +kernel
theorem dX7_restock_11 : decode cX7_restock 11 = .ok (.i2l, 1) := by decide +kernel
theorem dX7_restock_12 : decode cX7_restock 12 = .ok (.lconst 0, 1) := by decide +kernel
theorem dX7_restock_13 : decode cX7_restock 13 = .ok (.ldc2_w 187, 3) := by decide +kernel
theorem dX7_restock_16 : decode cX7_restock 16 = .ok (.invokestatic 67, 3) := by decide +kernel
theorem dX7_restock_19 : decode cX7_restock 19 = .ok (.ifCond .ne 6, 3) := by decide +kernel
theorem dX7_restock_22 : decode cX7_restock 22 = .ok (.bipush (-2), 2) := by decide +kernel
theorem dX7_restock_24 : decode cX7_restock 24 = .ok (.ireturn, 1) := by decide +kernel
theorem dX7_restock_25 : decode cX7_restock 25 = .ok (.aload_n 0, 1) := by decide +kernel
theorem dX7_restock_26 : decode cX7_restock 26 = .ok (.getfield 19, 3) := by decide +kernel
theorem dX7_restock_29 : decode cX7_restock 29 = .ok (.iconst 4, 1) := by decide +kernel
theorem dX7_restock_30 : decode cX7_restock 30 = .ok (.iload_n 1, 1) := by decide +kernel
theorem dX7_restock_31 : decode cX7_restock 31 = .ok (.iadd, 1) := by decide +kernel
theorem dX7_restock_32 : decode cX7_restock 32 = .ok (.iaload, 1) := by decide +kernel
theorem dX7_restock_33 : decode cX7_restock 33 = .ok (.istore_n 3, 1) := by decide +kernel
theorem dX7_restock_34 : decode cX7_restock 34 = .ok (.aload_n 0, 1) := by decide +kernel
theorem dX7_restock_35 : decode cX7_restock 35 = .ok (.iconst 4, 1) := by decide +kernel
theorem dX7_restock_36 : decode cX7_restock 36 = .ok (.iload_n 1, 1) := by decide +kernel
theorem dX7_restock_37 : decode cX7_restock 37 = .ok (.iadd, 1) := by decide +kernel
theorem dX7_restock_38 : decode cX7_restock 38 = .ok (.iload_n 2, 1) := by decide +kernel
theorem dX7_restock_39 : decode cX7_restock 39 = .ok (.invokevirtual 189, 3) := by decide +kernel
theorem dX7_restock_42 : decode cX7_restock 42 = .ok (.iload_n 3, 1) := by decide +kernel
theorem dX7_restock_43 : decode cX7_restock 43 = .ok (.ireturn, 1) := by decide +kernel
theorem dX7_want_0 : decode cX7_want 0 = .ok (.aload_n 0, 1) := by decide +kernel
theorem dX7_want_1 : decode cX7_want 1 = .ok (.iload_n 1, 1) := by decide +kernel
theorem dX7_want_2 : decode cX7_want 2 = .ok (.invokevirtual 178, 3) := by decide +kernel
theorem dX7_want_5 : decode cX7_want 5 = .ok (.ifCond .ne 5, 3) := by decide +kernel
theorem dX7_want_8 : decode cX7_want 8 = .ok (.iconst (-1), 1) := by decide +kernel
theorem dX7_want_9 : decode cX7_want 9 = .ok (.ireturn, 1) := by decide +kernel
theorem dX7_want_10 : decode cX7_want 10 = .ok (.iload_n 2, 1) := by decide +kernel
theorem dX7_want_11 : decode cX7_want 11 = .ok (.i2l, 1) := by decide +kernel
theorem dX7_want_12 : decode cX7_want 12 = .ok (.lconst 1, 1) := by decide +kernel
theorem dX7_want_13 : decode cX7_want 13 = .ok (.ldc2_w 97, 3) := by decide +kernel
theorem dX7_want_16 : decode cX7_want 16 = .ok (.invokestatic 67, 3) := by decide +kernel
theorem dX7_want_19 : decode cX7_want 19 = .ok (.ifCond .ne 6, 3) := by decide +kernel
theorem dX7_want_22 : decode cX7_want 22 = .ok (.bipush (-2), 2) := by decide +kernel
theorem dX7_want_24 : decode cX7_want 24 = .ok (.ireturn, 1) := by decide +kernel
theorem dX7_want_25 : decode cX7_want 25 = .ok (.aload_n 0, 1) := by decide +kernel
theorem dX7_want_26 : decode cX7_want 26 = .ok (.getfield 19, 3) := by decide +kernel
theorem dX7_want_29 : decode cX7_want 29 = .ok (.iload_n 1, 1) := by decide +kernel
theorem dX7_want_30 : decode cX7_want 30 = .ok (.iaload, 1) := by decide +kernel
theorem dX7_want_31 : decode cX7_want 31 = .ok (.istore_n 3, 1) := by decide +kernel
theorem dX7_want_32 : decode cX7_want 32 = .ok (.aload_n 0, 1) := by decide +kernel
theorem dX7_want_33 : decode cX7_want 33 = .ok (.iload_n 1, 1) := by decide +kernel
theorem dX7_want_34 : decode cX7_want 34 = .ok (.iload_n 2, 1) := by decide +kernel
theorem dX7_want_35 : decode cX7_want 35 = .ok (.invokevirtual 189, 3) := by decide +kernel
theorem dX7_want_38 : decode cX7_want 38 = .ok (.iload_n 3, 1) := by decide +kernel
theorem dX7_want_39 : decode cX7_want 39 = .ok (.ireturn, 1) := by decide +kernel
theorem dX7_bear_0 : decode cX7_bear 0 = .ok (.iload_n 1, 1) := by decide +kernel
theorem dX7_bear_1 : decode cX7_bear 1 = .ok (.i2l, 1) := by decide +kernel
theorem dX7_bear_2 : decode cX7_bear 2 = .ok (.lconst 0, 1) := by decide +kernel
theorem dX7_bear_3 : decode cX7_bear 3 = .ok (.ldc2_w 193, 3) := by decide +kernel
theorem dX7_bear_6 : decode cX7_bear 6 = .ok (.invokestatic 67, 3) := by decide +kernel
theorem dX7_bear_9 : decode cX7_bear 9 = .ok (.ifCond .ne 6, 3) := by decide +kernel
theorem dX7_bear_12 : decode cX7_bear 12 = .ok (.bipush (-2), 2) := by decide +kernel
theorem dX7_bear_14 : decode cX7_bear 14 = .ok (.ireturn, 1) := by decide +kernel
theorem dX7_bear_15 : decode cX7_bear 15 = .ok (.aload_n 0, 1) := by decide +kernel
theorem dX7_bear_16 : decode cX7_bear 16 = .ok (.getfield 19, 3) := by decide +kernel
theorem dX7_bear_19 : decode cX7_bear 19 = .ok (.bipush 12, 2) := by decide +kernel
theorem dX7_bear_21 : decode cX7_bear 21 = .ok (.iaload, 1) := by decide +kernel
theorem dX7_bear_22 : decode cX7_bear 22 = .ok (.istore_n 2, 1) := by decide +kernel
theorem dX7_bear_23 : decode cX7_bear 23 = .ok (.aload_n 0, 1) := by decide +kernel
theorem dX7_bear_24 : decode cX7_bear 24 = .ok (.bipush 12, 2) := by decide +kernel
theorem dX7_bear_26 : decode cX7_bear 26 = .ok (.iload_n 1, 1) := by decide +kernel
theorem dX7_bear_27 : decode cX7_bear 27 = .ok (.invokevirtual 189, 3) := by decide +kernel
theorem dX7_bear_30 : decode cX7_bear 30 = .ok (.iload_n 2, 1) := by decide +kernel
theorem dX7_bear_31 : decode cX7_bear 31 = .ok (.ireturn, 1) := by decide +kernel
theorem dX7_undo_0 : decode cX7_undo 0 = .ok (.aload_n 0, 1) := by decide +kernel
theorem dX7_undo_1 : decode cX7_undo 1 = .ok (.getfield 113, 3) := by decide +kernel
theorem dX7_undo_4 : decode cX7_undo 4 = .ok (.ifCond .ne 6, 3) := by decide +kernel
theorem dX7_undo_7 : decode cX7_undo 7 = .ok (.bipush (-3), 2) := by decide +kernel
theorem dX7_undo_9 : decode cX7_undo 9 = .ok (.ireturn, 1) := by decide +kernel
theorem dX7_undo_10 : decode cX7_undo 10 = .ok (.aload_n 0, 1) := by decide +kernel
theorem dX7_undo_11 : decode cX7_undo 11 = .ok (.dup, 1) := by decide +kernel
theorem dX7_undo_12 : decode cX7_undo 12 = .ok (.getfield 113, 3) := by decide +kernel
theorem dX7_undo_15 : decode cX7_undo 15 = .ok (.iconst 1, 1) := by decide +kernel
theorem dX7_undo_16 : decode cX7_undo 16 = .ok (.isub, 1) := by decide +kernel
theorem dX7_undo_17 : decode cX7_undo 17 = .ok (.putfield 113, 3) := by decide +kernel
theorem dX7_undo_20 : decode cX7_undo 20 = .ok (.aload_n 0, 1) := by decide +kernel
theorem dX7_undo_21 : decode cX7_undo 21 = .ok (.aload_n 0, 1) := by decide +kernel
theorem dX7_undo_22 : decode cX7_undo 22 = .ok (.getfield 184, 3) := by decide +kernel
theorem dX7_undo_25 : decode cX7_undo 25 = .ok (.bipush 14, 2) := by decide +kernel
theorem dX7_undo_27 : decode cX7_undo 27 = .ok (.iadd, 1) := by decide +kernel
theorem dX7_undo_28 : decode cX7_undo 28 = .ok (.iconst 1, 1) := by decide +kernel
theorem dX7_undo_29 : decode cX7_undo 29 = .ok (.isub, 1) := by decide +kernel
theorem dX7_undo_30 : decode cX7_undo 30 = .ok (.bipush 14, 2) := by decide +kernel
theorem dX7_undo_32 : decode cX7_undo 32 = .ok (.irem, 1) := by decide +kernel
theorem dX7_undo_33 : decode cX7_undo 33 = .ok (.putfield 184, 3) := by decide +kernel
theorem dX7_undo_36 : decode cX7_undo 36 = .ok (.iconst 0, 1) := by decide +kernel
theorem dX7_undo_37 : decode cX7_undo 37 = .ok (.istore_n 1, 1) := by decide +kernel
theorem dX7_undo_38 : decode cX7_undo 38 = .ok (.iload_n 1, 1) := by decide +kernel
theorem dX7_undo_39 : decode cX7_undo 39 = .ok (.bipush 13, 2) := by decide +kernel
theorem dX7_undo_41 : decode cX7_undo 41 = .ok (.if_icmp .ge 29, 3) := by decide +kernel
theorem dX7_undo_44 : decode cX7_undo 44 = .ok (.aload_n 0, 1) := by decide +kernel
theorem dX7_undo_45 : decode cX7_undo 45 = .ok (.getfield 19, 3) := by decide +kernel
theorem dX7_undo_48 : decode cX7_undo 48 = .ok (.iload_n 1, 1) := by decide +kernel
theorem dX7_undo_49 : decode cX7_undo 49 = .ok (.aload_n 0, 1) := by decide +kernel
theorem dX7_undo_50 : decode cX7_undo 50 = .ok (.getfield 25, 3) := by decide +kernel
theorem dX7_undo_53 : decode cX7_undo 53 = .ok (.bipush 13, 2) := by decide +kernel
theorem dX7_undo_55 : decode cX7_undo 55 = .ok (.aload_n 0, 1) := by decide +kernel
theorem dX7_undo_56 : decode cX7_undo 56 = .ok (.getfield 184, 3) := by decide +kernel
theorem dX7_undo_59 : decode cX7_undo 59 = .ok (.imul, 1) := by decide +kernel
theorem dX7_undo_60 : decode cX7_undo 60 = .ok (.iload_n 1, 1) := by decide +kernel
theorem dX7_undo_61 : decode cX7_undo 61 = .ok (.iadd, 1) := by decide +kernel
theorem dX7_undo_62 : decode cX7_undo 62 = .ok (.iaload, 1) := by decide +kernel
theorem dX7_undo_63 : decode cX7_undo 63 = .ok (.iastore, 1) := by decide +kernel
theorem dX7_undo_64 : decode cX7_undo 64 = .ok (.iinc 1 1, 3) := by decide +kernel
theorem dX7_undo_67 : decode cX7_undo 67 = .ok (.goto (-29), 3) := by decide +kernel
theorem dX7_undo_70 : decode cX7_undo 70 = .ok (.aload_n 0, 1) := by decide +kernel
theorem dX7_undo_71 : decode cX7_undo 71 = .ok (.getfield 113, 3) := by decide +kernel
theorem dX7_undo_74 : decode cX7_undo 74 = .ok (.ireturn, 1) := by decide +kernel
theorem dX7_best_0 : decode cX7_best 0 = .ok (.aload_n 0, 1) := by decide +kernel
theorem dX7_best_1 : decode cX7_best 1 = .ok (.aload_n 0, 1) := by decide +kernel
theorem dX7_best_2 : decode cX7_best 2 = .ok (.getfield 19, 3) := by decide +kernel
theorem dX7_best_5 : decode cX7_best 5 = .ok (.aload_n 0, 1) := by decide +kernel
theorem dX7_best_6 : decode cX7_best 6 = .ok (.invokevirtual 147, 3) := by decide +kernel
theorem dX7_best_9 : decode cX7_best 9 = .ok (.invokevirtual 150, 3) := by decide +kernel
theorem dX7_best_12 : decode cX7_best 12 = .ok (.bipush (-9), 2) := by decide +kernel
theorem dX7_best_14 : decode cX7_best 14 = .ok (.if_icmp .ne 6, 3) := by decide +kernel
theorem dX7_best_17 : decode cX7_best 17 = .ok (.bipush (-9), 2) := by decide +kernel
theorem dX7_best_19 : decode cX7_best 19 = .ok (.ireturn, 1) := by decide +kernel
theorem dX7_best_20 : decode cX7_best 20 = .ok (.iconst 0, 1) := by decide +kernel
theorem dX7_best_21 : decode cX7_best 21 = .ok (.istore_n 1, 1) := by decide +kernel
theorem dX7_best_22 : decode cX7_best 22 = .ok (.iconst 0, 1) := by decide +kernel
theorem dX7_best_23 : decode cX7_best 23 = .ok (.istore_n 2, 1) := by decide +kernel
theorem dX7_best_24 : decode cX7_best 24 = .ok (.iload_n 2, 1) := by decide +kernel
theorem dX7_best_25 : decode cX7_best 25 = .ok (.aload_n 0, 1) := by decide +kernel
theorem dX7_best_26 : decode cX7_best 26 = .ok (.getfield 63, 3) := by decide +kernel
theorem dX7_best_29 : decode cX7_best 29 = .ok (.if_icmp .ge 25, 3) := by decide +kernel
theorem dX7_best_32 : decode cX7_best 32 = .ok (.bipush 10, 2) := by decide +kernel
theorem dX7_best_34 : decode cX7_best 34 = .ok (.iload_n 1, 1) := by decide +kernel
theorem dX7_best_35 : decode cX7_best 35 = .ok (.imul, 1) := by decide +kernel
theorem dX7_best_36 : decode cX7_best 36 = .ok (.aload_n 0, 1) := by decide +kernel
theorem dX7_best_37 : decode cX7_best 37 = .ok (.aload_n 0, 1) := by decide +kernel
theorem dX7_best_38 : decode cX7_best 38 = .ok (.getfield 136, 3) := by decide +kernel
theorem dX7_best_41 : decode cX7_best 41 = .ok (.iconst 5, 1) := by decide +kernel
theorem dX7_best_42 : decode cX7_best 42 = .ok (.iload_n 2, 1) := by decide +kernel
theorem dX7_best_43 : decode cX7_best 43 = .ok (.invokevirtual 119, 3) := by decide +kernel
theorem dX7_best_46 : decode cX7_best 46 = .ok (.iadd, 1) := by decide +kernel
theorem dX7_best_47 : decode cX7_best 47 = .ok (.istore_n 1, 1) := by decide +kernel
theorem dX7_best_48 : decode cX7_best 48 = .ok (.iinc 2 1, 3) := by decide +kernel
theorem dX7_best_51 : decode cX7_best 51 = .ok (.goto (-27), 3) := by decide +kernel
theorem dX7_best_54 : decode cX7_best 54 = .ok (.iload_n 1, 1) := by decide +kernel
theorem dX7_best_55 : decode cX7_best 55 = .ok (.ireturn, 1) := by decide +kernel
theorem dX7_cost_0 : decode cX7_cost 0 = .ok (.iload_n 1, 1) := by decide +kernel
theorem dX7_cost_1 : decode cX7_cost 1 = .ok (.i2l, 1) := by decide +kernel
theorem dX7_cost_2 : decode cX7_cost 2 = .ok (.lconst 0, 1) := by decide +kernel
theorem dX7_cost_3 : decode cX7_cost 3 = .ok (.bipush 10, 2) := by decide +kernel
theorem dX7_cost_5 : decode cX7_cost 5 = .ok (.aload_n 0, 1) := by decide +kernel
theorem dX7_cost_6 : decode cX7_cost 6 = .ok (.getfield 63, 3) := by decide +kernel
theorem dX7_cost_9 : decode cX7_cost 9 = .ok (.invokestatic 116, 3) := by decide +kernel
theorem dX7_cost_12 : decode cX7_cost 12 = .ok (.iconst 1, 1) := by decide +kernel
theorem dX7_cost_13 : decode cX7_cost 13 = .ok (.isub, 1) := by decide +kernel
theorem dX7_cost_14 : decode cX7_cost 14 = .ok (.i2l, 1) := by decide +kernel
theorem dX7_cost_15 : decode cX7_cost 15 = .ok (.invokestatic 67, 3) := by decide +kernel
theorem dX7_cost_18 : decode cX7_cost 18 = .ok (.ifCond .ne 6, 3) := by decide +kernel
theorem dX7_cost_21 : decode cX7_cost 21 = .ok (.bipush (-2), 2) := by decide +kernel
theorem dX7_cost_23 : decode cX7_cost 23 = .ok (.ireturn, 1) := by decide +kernel
theorem dX7_cost_24 : decode cX7_cost 24 = .ok (.iconst 0, 1) := by decide +kernel
theorem dX7_cost_25 : decode cX7_cost 25 = .ok (.istore_n 2, 1) := by decide +kernel
theorem dX7_cost_26 : decode cX7_cost 26 = .ok (.iconst 1, 1) := by decide +kernel
theorem dX7_cost_27 : decode cX7_cost 27 = .ok (.istore_n 3, 1) := by decide +kernel
theorem dX7_cost_28 : decode cX7_cost 28 = .ok (.iconst 0, 1) := by decide +kernel
theorem dX7_cost_29 : decode cX7_cost 29 = .ok (.istore 4, 2) := by decide +kernel
theorem dX7_cost_31 : decode cX7_cost 31 = .ok (.iload 4, 2) := by decide +kernel
theorem dX7_cost_33 : decode cX7_cost 33 = .ok (.aload_n 0, 1) := by decide +kernel
theorem dX7_cost_34 : decode cX7_cost 34 = .ok (.getfield 63, 3) := by decide +kernel
theorem dX7_cost_37 : decode cX7_cost 37 = .ok (.if_icmp .ge 74, 3) := by decide +kernel
theorem dX7_cost_40 : decode cX7_cost 40 = .ok (.iload_n 1, 1) := by decide +kernel
theorem dX7_cost_41 : decode cX7_cost 41 = .ok (.bipush 10, 2) := by decide +kernel
theorem dX7_cost_43 : decode cX7_cost 43 = .ok (.aload_n 0, 1) := by decide +kernel
theorem dX7_cost_44 : decode cX7_cost 44 = .ok (.getfield 63, 3) := by decide +kernel
theorem dX7_cost_47 : decode cX7_cost 47 = .ok (.iconst 1, 1) := by decide +kernel
theorem dX7_cost_48 : decode cX7_cost 48 = .ok (.isub, 1) := by decide +kernel
theorem dX7_cost_49 : decode cX7_cost 49 = .ok (.iload 4, 2) := by decide +kernel
theorem dX7_cost_51 : decode cX7_cost 51 = .ok (.isub, 1) := by decide +kernel
theorem dX7_cost_52 : decode cX7_cost 52 = .ok (.invokestatic 116, 3) := by decide +kernel
theorem dX7_cost_55 : decode cX7_cost 55 = .ok (.idiv, 1) := by decide +kernel
theorem dX7_cost_56 : decode cX7_cost 56 = .ok (.bipush 10, 2) := by decide +kernel
theorem dX7_cost_58 : decode cX7_cost 58 = .ok (.irem, 1) := by decide +kernel
theorem dX7_cost_59 : decode cX7_cost 59 = .ok (.istore 5, 2) := by decide +kernel
theorem dX7_cost_61 : decode cX7_cost 61 = .ok (.iload_n 3, 1) := by decide +kernel
theorem dX7_cost_62 : decode cX7_cost 62 = .ok (.ifCond .eq 23, 3) := by decide +kernel
theorem dX7_cost_65 : decode cX7_cost 65 = .ok (.aload_n 0, 1) := by decide +kernel
theorem dX7_cost_66 : decode cX7_cost 66 = .ok (.iload 5, 2) := by decide +kernel
theorem dX7_cost_68 : decode cX7_cost 68 = .ok (.invokevirtual 123, 3) := by decide +kernel
theorem dX7_cost_71 : decode cX7_cost 71 = .ok (.ifCond .ne 10, 3) := by decide +kernel
theorem dX7_cost_74 : decode cX7_cost 74 = .ok (.iload 5, 2) := by decide +kernel
theorem dX7_cost_76 : decode cX7_cost 76 = .ok (.bipush 9, 2) := by decide +kernel
theorem dX7_cost_78 : decode cX7_cost 78 = .ok (.if_icmp .ne 7, 3) := by decide +kernel
theorem dX7_cost_81 : decode cX7_cost 81 = .ok (.iconst 1, 1) := by decide +kernel
theorem dX7_cost_82 : decode cX7_cost 82 = .ok (.goto 4, 3) := by decide +kernel
theorem dX7_cost_85 : decode cX7_cost 85 = .ok (.iconst 0, 1) := by decide +kernel
theorem dX7_cost_86 : decode cX7_cost 86 = .ok (.istore_n 3, 1) := by decide +kernel
theorem dX7_cost_87 : decode cX7_cost 87 = .ok (.iconst 5, 1) := by decide +kernel
theorem dX7_cost_88 : decode cX7_cost 88 = .ok (.iload_n 2, 1) := by decide +kernel
theorem dX7_cost_89 : decode cX7_cost 89 = .ok (.imul, 1) := by decide +kernel
theorem dX7_cost_90 : decode cX7_cost 90 = .ok (.iload 5, 2) := by decide +kernel
theorem dX7_cost_92 : decode cX7_cost 92 = .ok (.bipush 9, 2) := by decide +kernel
theorem dX7_cost_94 : decode cX7_cost 94 = .ok (.if_icmp .ne 7, 3) := by decide +kernel
theorem dX7_cost_97 : decode cX7_cost 97 = .ok (.iconst 4, 1) := by decide +kernel
theorem dX7_cost_98 : decode cX7_cost 98 = .ok (.goto 5, 3) := by decide +kernel
theorem dX7_cost_101 : decode cX7_cost 101 = .ok (.iload 5, 2) := by decide +kernel
theorem dX7_cost_103 : decode cX7_cost 103 = .ok (.iadd, 1) := by decide +kernel
theorem dX7_cost_104 : decode cX7_cost 104 = .ok (.istore_n 2, 1) := by decide +kernel
theorem dX7_cost_105 : decode cX7_cost 105 = .ok (.iinc 4 1, 3) := by decide +kernel
theorem dX7_cost_108 : decode cX7_cost 108 = .ok (.goto (-77), 3) := by decide +kernel
theorem dX7_cost_111 : decode cX7_cost 111 = .ok (.iload_n 3, 1) := by decide +kernel
theorem dX7_cost_112 : decode cX7_cost 112 = .ok (.ifCond .eq 20, 3) := by decide +kernel
theorem dX7_cost_115 : decode cX7_cost 115 = .ok (.aload_n 0, 1) := by decide +kernel
theorem dX7_cost_116 : decode cX7_cost 116 = .ok (.aload_n 0, 1) := by decide +kernel
theorem dX7_cost_117 : decode cX7_cost 117 = .ok (.getfield 19, 3) := by decide +kernel
theorem dX7_cost_120 : decode cX7_cost 120 = .ok (.iload_n 2, 1) := by decide +kernel
theorem dX7_cost_121 : decode cX7_cost 121 = .ok (.iconst 5, 1) := by decide +kernel
theorem dX7_cost_122 : decode cX7_cost 122 = .ok (.aload_n 0, 1) := by decide +kernel
theorem dX7_cost_123 : decode cX7_cost 123 = .ok (.invokevirtual 147, 3) := by decide +kernel
theorem dX7_cost_126 : decode cX7_cost 126 = .ok (.invokevirtual 139, 3) := by decide +kernel
theorem dX7_cost_129 : decode cX7_cost 129 = .ok (.goto 5, 3) := by decide +kernel
theorem dX7_cost_132 : decode cX7_cost 132 = .ok (.bipush (-9), 2) := by decide +kernel
theorem dX7_cost_134 : decode cX7_cost 134 = .ok (.ireturn, 1) := by decide +kernel
theorem dX7_gain_0 : decode cX7_gain 0 = .ok (.aload_n 0, 1) := by decide +kernel
theorem dX7_gain_1 : decode cX7_gain 1 = .ok (.iload_n 1, 1) := by decide +kernel
theorem dX7_gain_2 : decode cX7_gain 2 = .ok (.invokevirtual 123, 3) := by decide +kernel
theorem dX7_gain_5 : decode cX7_gain 5 = .ok (.ifCond .ne 5, 3) := by decide +kernel
theorem dX7_gain_8 : decode cX7_gain 8 = .ok (.iconst (-1), 1) := by decide +kernel
theorem dX7_gain_9 : decode cX7_gain 9 = .ok (.ireturn, 1) := by decide +kernel
theorem dX7_gain_10 : decode cX7_gain 10 = .ok (.iload_n 2, 1) := by decide +kernel
theorem dX7_gain_11 : decode cX7_gain 11 = .ok (.i2l, 1) := by decide +kernel
theorem dX7_gain_12 : decode cX7_gain 12 = .ok (.lconst 0, 1) := by decide +kernel
theorem dX7_gain_13 : decode cX7_gain 13 = .ok (.ldc2_w 187, 3) := by decide +kernel
theorem dX7_gain_16 : decode cX7_gain 16 = .ok (.invokestatic 67, 3) := by decide +kernel
theorem dX7_gain_19 : decode cX7_gain 19 = .ok (.ifCond .ne 6, 3) := by decide +kernel
theorem dX7_gain_22 : decode cX7_gain 22 = .ok (.bipush (-2), 2) := by decide +kernel
theorem dX7_gain_24 : decode cX7_gain 24 = .ok (.ireturn, 1) := by decide +kernel
theorem dX7_gain_25 : decode cX7_gain 25 = .ok (.aload_n 0, 1) := by decide +kernel
theorem dX7_gain_26 : decode cX7_gain 26 = .ok (.invokevirtual 157, 3) := by decide +kernel
theorem dX7_gain_29 : decode cX7_gain 29 = .ok (.aload_n 0, 1) := by decide +kernel
theorem dX7_gain_30 : decode cX7_gain 30 = .ok (.getfield 22, 3) := by decide +kernel
theorem dX7_gain_33 : decode cX7_gain 33 = .ok (.bipush 8, 2) := by decide +kernel
theorem dX7_gain_35 : decode cX7_gain 35 = .ok (.iload_n 1, 1) := by decide +kernel
theorem dX7_gain_36 : decode cX7_gain 36 = .ok (.iadd, 1) := by decide +kernel
theorem dX7_gain_37 : decode cX7_gain 37 = .ok (.iload_n 2, 1) := by decide +kernel
theorem dX7_gain_38 : decode cX7_gain 38 = .ok (.iastore, 1) := by decide +kernel
theorem dX7_gain_39 : decode cX7_gain 39 = .ok (.aload_n 0, 1) := by decide +kernel
theorem dX7_gain_40 : decode cX7_gain 40 = .ok (.aload_n 0, 1) := by decide +kernel
theorem dX7_gain_41 : decode cX7_gain 41 = .ok (.getfield 22, 3) := by decide +kernel
theorem dX7_gain_44 : decode cX7_gain 44 = .ok (.iload_n 1, 1) := by decide +kernel
theorem dX7_gain_45 : decode cX7_gain 45 = .ok (.invokevirtual 181, 3) := by decide +kernel
theorem dX7_gain_48 : decode cX7_gain 48 = .ok (.istore_n 3, 1) := by decide +kernel
theorem dX7_gain_49 : decode cX7_gain 49 = .ok (.iload_n 3, 1) := by decide +kernel
theorem dX7_gain_50 : decode cX7_gain 50 = .ok (.bipush (-9), 2) := by decide +kernel
theorem dX7_gain_52 : decode cX7_gain 52 = .ok (.if_icmp .ne 8, 3) := by decide +kernel
theorem dX7_gain_55 : decode cX7_gain 55 = .ok (.bipush (-9), 2) := by decide +kernel
theorem dX7_gain_57 : decode cX7_gain 57 = .ok (.goto 24, 3) := by decide +kernel
theorem dX7_gain_60 : decode cX7_gain 60 = .ok (.iload_n 3, 1) := by decide +kernel
theorem dX7_gain_61 : decode cX7_gain 61 = .ok (.aload_n 0, 1) := by decide +kernel
theorem dX7_gain_62 : decode cX7_gain 62 = .ok (.aload_n 0, 1) := by decide +kernel
theorem dX7_gain_63 : decode cX7_gain 63 = .ok (.getfield 22, 3) := by decide +kernel
theorem dX7_gain_66 : decode cX7_gain 66 = .ok (.iload_n 1, 1) := by decide +kernel
theorem dX7_gain_67 : decode cX7_gain 67 = .ok (.invokevirtual 154, 3) := by decide +kernel
theorem dX7_gain_70 : decode cX7_gain 70 = .ok (.aload_n 0, 1) := by decide +kernel
theorem dX7_gain_71 : decode cX7_gain 71 = .ok (.getfield 19, 3) := by decide +kernel
theorem dX7_gain_74 : decode cX7_gain 74 = .ok (.bipush 8, 2) := by decide +kernel
theorem dX7_gain_76 : decode cX7_gain 76 = .ok (.iload_n 1, 1) := by decide +kernel
theorem dX7_gain_77 : decode cX7_gain 77 = .ok (.iadd, 1) := by decide +kernel
theorem dX7_gain_78 : decode cX7_gain 78 = .ok (.iaload, 1) := by decide +kernel
theorem dX7_gain_79 : decode cX7_gain 79 = .ok (.imul, 1) := by decide +kernel
theorem dX7_gain_80 : decode cX7_gain 80 = .ok (.isub, 1) := by decide +kernel
theorem dX7_gain_81 : decode cX7_gain 81 = .ok (.ireturn, 1) := by decide +kernel
theorem dX7_ran_0 : decode cX7_ran 0 = .ok (.iload_n 1, 1) := by decide +kernel
theorem dX7_ran_1 : decode cX7_ran 1 = .ok (.i2l, 1) := by decide +kernel
theorem dX7_ran_2 : decode cX7_ran 2 = .ok (.lconst 0, 1) := by decide +kernel
theorem dX7_ran_3 : decode cX7_ran 3 = .ok (.ldc2_w 195, 3) := by decide +kernel
theorem dX7_ran_6 : decode cX7_ran 6 = .ok (.invokestatic 67, 3) := by decide +kernel
theorem dX7_ran_9 : decode cX7_ran 9 = .ok (.ifCond .ne 6, 3) := by decide +kernel
theorem dX7_ran_12 : decode cX7_ran 12 = .ok (.bipush (-2), 2) := by decide +kernel
theorem dX7_ran_14 : decode cX7_ran 14 = .ok (.ireturn, 1) := by decide +kernel
theorem dX7_ran_15 : decode cX7_ran 15 = .ok (.aload_n 0, 1) := by decide +kernel
theorem dX7_ran_16 : decode cX7_ran 16 = .ok (.invokevirtual 172, 3) := by decide +kernel
theorem dX7_ran_19 : decode cX7_ran 19 = .ok (.iconst 0, 1) := by decide +kernel
theorem dX7_ran_20 : decode cX7_ran 20 = .ok (.istore_n 2, 1) := by decide +kernel
theorem dX7_ran_21 : decode cX7_ran 21 = .ok (.iconst 0, 1) := by decide +kernel
theorem dX7_ran_22 : decode cX7_ran 22 = .ok (.istore_n 3, 1) := by decide +kernel
theorem dX7_ran_23 : decode cX7_ran 23 = .ok (.iload_n 3, 1) := by decide +kernel
theorem dX7_ran_24 : decode cX7_ran 24 = .ok (.aload_n 0, 1) := by decide +kernel
theorem dX7_ran_25 : decode cX7_ran 25 = .ok (.getfield 71, 3) := by decide +kernel
theorem dX7_ran_28 : decode cX7_ran 28 = .ok (.if_icmp .ge 23, 3) := by decide +kernel
theorem dX7_ran_31 : decode cX7_ran 31 = .ok (.bipush 10, 2) := by decide +kernel
theorem dX7_ran_33 : decode cX7_ran 33 = .ok (.iload_n 2, 1) := by decide +kernel
theorem dX7_ran_34 : decode cX7_ran 34 = .ok (.imul, 1) := by decide +kernel
theorem dX7_ran_35 : decode cX7_ran 35 = .ok (.aload_n 0, 1) := by decide +kernel
theorem dX7_ran_36 : decode cX7_ran 36 = .ok (.getfield 22, 3) := by decide +kernel
theorem dX7_ran_39 : decode cX7_ran 39 = .ok (.iconst 4, 1) := by decide +kernel
theorem dX7_ran_40 : decode cX7_ran 40 = .ok (.iload_n 3, 1) := by decide +kernel
theorem dX7_ran_41 : decode cX7_ran 41 = .ok (.iadd, 1) := by decide +kernel
theorem dX7_ran_42 : decode cX7_ran 42 = .ok (.iaload, 1) := by decide +kernel
theorem dX7_ran_43 : decode cX7_ran 43 = .ok (.iadd, 1) := by decide +kernel
theorem dX7_ran_44 : decode cX7_ran 44 = .ok (.istore_n 2, 1) := by decide +kernel
theorem dX7_ran_45 : decode cX7_ran 45 = .ok (.iinc 3 1, 3) := by decide +kernel
theorem dX7_ran_48 : decode cX7_ran 48 = .ok (.goto (-25), 3) := by decide +kernel
theorem dX7_ran_51 : decode cX7_ran 51 = .ok (.iload_n 1, 1) := by decide +kernel
theorem dX7_ran_52 : decode cX7_ran 52 = .ok (.ifCond .ne 10, 3) := by decide +kernel
theorem dX7_ran_55 : decode cX7_ran 55 = .ok (.aload_n 0, 1) := by decide +kernel
theorem dX7_ran_56 : decode cX7_ran 56 = .ok (.getfield 163, 3) := by decide +kernel
theorem dX7_ran_59 : decode cX7_ran 59 = .ok (.goto 16, 3) := by decide +kernel
theorem dX7_ran_62 : decode cX7_ran 62 = .ok (.iload_n 1, 1) := by decide +kernel
theorem dX7_ran_63 : decode cX7_ran 63 = .ok (.iconst 1, 1) := by decide +kernel
theorem dX7_ran_64 : decode cX7_ran 64 = .ok (.if_icmp .ne 10, 3) := by decide +kernel
theorem dX7_ran_67 : decode cX7_ran 67 = .ok (.aload_n 0, 1) := by decide +kernel
theorem dX7_ran_68 : decode cX7_ran 68 = .ok (.getfield 166, 3) := by decide +kernel
theorem dX7_ran_71 : decode cX7_ran 71 = .ok (.goto 4, 3) := by decide +kernel
theorem dX7_ran_74 : decode cX7_ran 74 = .ok (.iload_n 2, 1) := by decide +kernel
theorem dX7_ran_75 : decode cX7_ran 75 = .ok (.ireturn, 1) := by decide +kernel
theorem dX7_least_0 : decode cX7_least 0 = .ok (.iload_n 1, 1) := by decide +kernel
theorem dX7_least_1 : decode cX7_least 1 = .ok (.i2l, 1) := by decide +kernel
theorem dX7_least_2 : decode cX7_least 2 = .ok (.lconst 0, 1) := by decide +kernel
theorem dX7_least_3 : decode cX7_least 3 = .ok (.aload_n 0, 1) := by decide +kernel
theorem dX7_least_4 : decode cX7_least 4 = .ok (.invokevirtual 147, 3) := by decide +kernel
theorem dX7_least_7 : decode cX7_least 7 = .ok (.i2l, 1) := by decide +kernel
theorem dX7_least_8 : decode cX7_least 8 = .ok (.invokestatic 67, 3) := by decide +kernel
theorem dX7_least_11 : decode cX7_least 11 = .ok (.ifCond .eq 15, 3) := by decide +kernel
theorem dX7_least_14 : decode cX7_least 14 = .ok (.aload_n 0, 1) := by decide +kernel
theorem dX7_least_15 : decode cX7_least 15 = .ok (.aload_n 0, 1) := by decide +kernel
theorem dX7_least_16 : decode cX7_least 16 = .ok (.getfield 19, 3) := by decide +kernel
theorem dX7_least_19 : decode cX7_least 19 = .ok (.iload_n 1, 1) := by decide +kernel
theorem dX7_least_20 : decode cX7_least 20 = .ok (.invokevirtual 150, 3) := by decide +kernel
theorem dX7_least_23 : decode cX7_least 23 = .ok (.goto 5, 3) := by decide +kernel
theorem dX7_least_26 : decode cX7_least 26 = .ok (.bipush (-2), 2) := by decide +kernel
theorem dX7_least_28 : decode cX7_least 28 = .ok (.ireturn, 1) := by decide +kernel
theorem dX7_most_0 : decode cX7_most 0 = .ok (.iload_n 1, 1) := by decide +kernel
theorem dX7_most_1 : decode cX7_most 1 = .ok (.i2l, 1) := by decide +kernel
theorem dX7_most_2 : decode cX7_most 2 = .ok (.lconst 0, 1) := by decide +kernel
theorem dX7_most_3 : decode cX7_most 3 = .ok (.aload_n 0, 1) := by decide +kernel
theorem dX7_most_4 : decode cX7_most 4 = .ok (.invokevirtual 147, 3) := by decide +kernel
theorem dX7_most_7 : decode cX7_most 7 = .ok (.i2l, 1) := by decide +kernel
theorem dX7_most_8 : decode cX7_most 8 = .ok (.invokestatic 67, 3) := by decide +kernel
theorem dX7_most_11 : decode cX7_most 11 = .ok (.ifCond .eq 15, 3) := by decide +kernel
theorem dX7_most_14 : decode cX7_most 14 = .ok (.aload_n 0, 1) := by decide +kernel
theorem dX7_most_15 : decode cX7_most 15 = .ok (.aload_n 0, 1) := by decide +kernel
theorem dX7_most_16 : decode cX7_most 16 = .ok (.getfield 19, 3) := by decide +kernel
theorem dX7_most_19 : decode cX7_most 19 = .ok (.iload_n 1, 1) := by decide +kernel
theorem dX7_most_20 : decode cX7_most 20 = .ok (.invokevirtual 169, 3) := by decide +kernel
theorem dX7_most_23 : decode cX7_most 23 = .ok (.goto 5, 3) := by decide +kernel
theorem dX7_most_26 : decode cX7_most 26 = .ok (.bipush (-2), 2) := by decide +kernel
theorem dX7_most_28 : decode cX7_most 28 = .ok (.ireturn, 1) := by decide +kernel
theorem dX7_sharesOf_0 : decode cX7_sharesOf 0 = .ok (.iconst 0, 1) := by decide +kernel
theorem dX7_sharesOf_1 : decode cX7_sharesOf 1 = .ok (.istore_n 3, 1) := by decide +kernel
theorem dX7_sharesOf_2 : decode cX7_sharesOf 2 = .ok (.iconst 0, 1) := by decide +kernel
theorem dX7_sharesOf_3 : decode cX7_sharesOf 3 = .ok (.istore 4, 2) := by decide +kernel
theorem dX7_sharesOf_5 : decode cX7_sharesOf 5 = .ok (.iload 4, 2) := by decide +kernel
theorem dX7_sharesOf_7 : decode cX7_sharesOf 7 = .ok (.aload_n 0, 1) := by decide +kernel
theorem dX7_sharesOf_8 : decode cX7_sharesOf 8 = .ok (.getfield 71, 3) := by decide +kernel
theorem dX7_sharesOf_11 : decode cX7_sharesOf 11 = .ok (.if_icmp .ge 44, 3) := by decide +kernel
theorem dX7_sharesOf_14 : decode cX7_sharesOf 14 = .ok (.iload_n 3, 1) := by decide +kernel
theorem dX7_sharesOf_15 : decode cX7_sharesOf 15 = .ok (.iload_n 2, 1) := by decide +kernel
theorem dX7_sharesOf_16 : decode cX7_sharesOf 16 = .ok (.iload 4, 2) := by decide +kernel
theorem dX7_sharesOf_18 : decode cX7_sharesOf 18 = .ok (.invokestatic 126, 3) := by decide +kernel
theorem dX7_sharesOf_21 : decode cX7_sharesOf 21 = .ok (.ifCond .eq 25, 3) := by decide +kernel
theorem dX7_sharesOf_24 : decode cX7_sharesOf 24 = .ok (.iload_n 1, 1) := by decide +kernel
theorem dX7_sharesOf_25 : decode cX7_sharesOf 25 = .ok (.bipush 10, 2) := by decide +kernel
theorem dX7_sharesOf_27 : decode cX7_sharesOf 27 = .ok (.aload_n 0, 1) := by decide +kernel
theorem dX7_sharesOf_28 : decode cX7_sharesOf 28 = .ok (.getfield 71, 3) := by decide +kernel
theorem dX7_sharesOf_31 : decode cX7_sharesOf 31 = .ok (.iconst 1, 1) := by decide +kernel
theorem dX7_sharesOf_32 : decode cX7_sharesOf 32 = .ok (.isub, 1) := by decide +kernel
theorem dX7_sharesOf_33 : decode cX7_sharesOf 33 = .ok (.iload 4, 2) := by decide +kernel
theorem dX7_sharesOf_35 : decode cX7_sharesOf 35 = .ok (.isub, 1) := by decide +kernel
theorem dX7_sharesOf_36 : decode cX7_sharesOf 36 = .ok (.invokestatic 116, 3) := by decide +kernel
theorem dX7_sharesOf_39 : decode cX7_sharesOf 39 = .ok (.idiv, 1) := by decide +kernel
theorem dX7_sharesOf_40 : decode cX7_sharesOf 40 = .ok (.bipush 10, 2) := by decide +kernel
theorem dX7_sharesOf_42 : decode cX7_sharesOf 42 = .ok (.irem, 1) := by decide +kernel
theorem dX7_sharesOf_43 : decode cX7_sharesOf 43 = .ok (.goto 4, 3) := by decide +kernel
theorem dX7_sharesOf_46 : decode cX7_sharesOf 46 = .ok (.iconst 0, 1) := by decide +kernel
theorem dX7_sharesOf_47 : decode cX7_sharesOf 47 = .ok (.iadd, 1) := by decide +kernel
theorem dX7_sharesOf_48 : decode cX7_sharesOf 48 = .ok (.istore_n 3, 1) := by decide +kernel
theorem dX7_sharesOf_49 : decode cX7_sharesOf 49 = .ok (.iinc 4 1, 3) := by decide +kernel
theorem dX7_sharesOf_52 : decode cX7_sharesOf 52 = .ok (.goto (-47), 3) := by decide +kernel
theorem dX7_sharesOf_55 : decode cX7_sharesOf 55 = .ok (.iload_n 3, 1) := by decide +kernel
theorem dX7_sharesOf_56 : decode cX7_sharesOf 56 = .ok (.ireturn, 1) := by decide +kernel
theorem dX7_holds_0 : decode cX7_holds 0 = .ok (.iload_n 1, 1) := by decide +kernel
theorem dX7_holds_1 : decode cX7_holds 1 = .ok (.i2l, 1) := by decide +kernel
theorem dX7_holds_2 : decode cX7_holds 2 = .ok (.lconst 0, 1) := by decide +kernel
theorem dX7_holds_3 : decode cX7_holds 3 = .ok (.bipush 10, 2) := by decide +kernel
theorem dX7_holds_5 : decode cX7_holds 5 = .ok (.aload_n 0, 1) := by decide +kernel
theorem dX7_holds_6 : decode cX7_holds 6 = .ok (.getfield 71, 3) := by decide +kernel
theorem dX7_holds_9 : decode cX7_holds 9 = .ok (.invokestatic 116, 3) := by decide +kernel
theorem dX7_holds_12 : decode cX7_holds 12 = .ok (.iconst 1, 1) := by decide +kernel
theorem dX7_holds_13 : decode cX7_holds 13 = .ok (.isub, 1) := by decide +kernel
theorem dX7_holds_14 : decode cX7_holds 14 = .ok (.i2l, 1) := by decide +kernel
theorem dX7_holds_15 : decode cX7_holds 15 = .ok (.invokestatic 67, 3) := by decide +kernel
theorem dX7_holds_18 : decode cX7_holds 18 = .ok (.ifCond .ne 6, 3) := by decide +kernel
theorem dX7_holds_21 : decode cX7_holds 21 = .ok (.bipush (-2), 2) := by decide +kernel
theorem dX7_holds_23 : decode cX7_holds 23 = .ok (.ireturn, 1) := by decide +kernel
theorem dX7_holds_24 : decode cX7_holds 24 = .ok (.aload_n 0, 1) := by decide +kernel
theorem dX7_holds_25 : decode cX7_holds 25 = .ok (.iload_n 1, 1) := by decide +kernel
theorem dX7_holds_26 : decode cX7_holds 26 = .ok (.aload_n 0, 1) := by decide +kernel
theorem dX7_holds_27 : decode cX7_holds 27 = .ok (.invokevirtual 147, 3) := by decide +kernel
theorem dX7_holds_30 : decode cX7_holds 30 = .ok (.invokevirtual 197, 3) := by decide +kernel
theorem dX7_holds_33 : decode cX7_holds 33 = .ok (.aload_n 0, 1) := by decide +kernel
theorem dX7_holds_34 : decode cX7_holds 34 = .ok (.aload_n 0, 1) := by decide +kernel
theorem dX7_holds_35 : decode cX7_holds 35 = .ok (.getfield 19, 3) := by decide +kernel
theorem dX7_holds_38 : decode cX7_holds 38 = .ok (.aload_n 0, 1) := by decide +kernel
theorem dX7_holds_39 : decode cX7_holds 39 = .ok (.invokevirtual 147, 3) := by decide +kernel
theorem dX7_holds_42 : decode cX7_holds 42 = .ok (.invokevirtual 169, 3) := by decide +kernel
theorem dX7_holds_45 : decode cX7_holds 45 = .ok (.if_icmp .eq 6, 3) := by decide +kernel
theorem dX7_holds_48 : decode cX7_holds 48 = .ok (.bipush (-3), 2) := by decide +kernel
theorem dX7_holds_50 : decode cX7_holds 50 = .ok (.ireturn, 1) := by decide +kernel
theorem dX7_holds_51 : decode cX7_holds 51 = .ok (.iconst 0, 1) := by decide +kernel
theorem dX7_holds_52 : decode cX7_holds 52 = .ok (.istore_n 2, 1) := by decide +kernel
theorem dX7_holds_53 : decode cX7_holds 53 = .ok (.iload_n 2, 1) := by decide +kernel
theorem dX7_holds_54 : decode cX7_holds 54 = .ok (.aload_n 0, 1) := by decide +kernel
theorem dX7_holds_55 : decode cX7_holds 55 = .ok (.invokevirtual 147, 3) := by decide +kernel
theorem dX7_holds_58 : decode cX7_holds 58 = .ok (.if_icmp .gt 29, 3) := by decide +kernel
theorem dX7_holds_61 : decode cX7_holds 61 = .ok (.aload_n 0, 1) := by decide +kernel
theorem dX7_holds_62 : decode cX7_holds 62 = .ok (.iload_n 1, 1) := by decide +kernel
theorem dX7_holds_63 : decode cX7_holds 63 = .ok (.iload_n 2, 1) := by decide +kernel
theorem dX7_holds_64 : decode cX7_holds 64 = .ok (.invokevirtual 197, 3) := by decide +kernel
theorem dX7_holds_67 : decode cX7_holds 67 = .ok (.aload_n 0, 1) := by decide +kernel
theorem dX7_holds_68 : decode cX7_holds 68 = .ok (.aload_n 0, 1) := by decide +kernel
theorem dX7_holds_69 : decode cX7_holds 69 = .ok (.getfield 19, 3) := by decide +kernel
theorem dX7_holds_72 : decode cX7_holds 72 = .ok (.iload_n 2, 1) := by decide +kernel
theorem dX7_holds_73 : decode cX7_holds 73 = .ok (.invokevirtual 169, 3) := by decide +kernel
theorem dX7_holds_76 : decode cX7_holds 76 = .ok (.if_icmp .ge 5, 3) := by decide +kernel
theorem dX7_holds_79 : decode cX7_holds 79 = .ok (.iload_n 2, 1) := by decide +kernel
theorem dX7_holds_80 : decode cX7_holds 80 = .ok (.ireturn, 1) := by decide +kernel
theorem dX7_holds_81 : decode cX7_holds 81 = .ok (.iinc 2 1, 3) := by decide +kernel
theorem dX7_holds_84 : decode cX7_holds 84 = .ok (.goto (-31), 3) := by decide +kernel
theorem dX7_holds_87 : decode cX7_holds 87 = .ok (.bipush (-9), 2) := by decide +kernel
theorem dX7_holds_89 : decode cX7_holds 89 = .ok (.ireturn, 1) := by decide +kernel
theorem dX7_judged_0 : decode cX7_judged 0 = .ok (.iload_n 1, 1) := by decide +kernel
theorem dX7_judged_1 : decode cX7_judged 1 = .ok (.tableswitch 265 1 7 #[43, 43, 79, 116, 143, 193, 234], 43) := by decide +kernel
theorem dX7_judged_44 : decode cX7_judged 44 = .ok (.aload_n 0, 1) := by decide +kernel
theorem dX7_judged_45 : decode cX7_judged 45 = .ok (.iload_n 2, 1) := by decide +kernel
theorem dX7_judged_46 : decode cX7_judged 46 = .ok (.invokevirtual 123, 3) := by decide +kernel
theorem dX7_judged_49 : decode cX7_judged 49 = .ok (.ifCond .eq 7, 3) := by decide +kernel
theorem dX7_judged_52 : decode cX7_judged 52 = .ok (.iload_n 3, 1) := by decide +kernel
theorem dX7_judged_53 : decode cX7_judged 53 = .ok (.ifCond .eq 5, 3) := by decide +kernel
theorem dX7_judged_56 : decode cX7_judged 56 = .ok (.iconst 0, 1) := by decide +kernel
theorem dX7_judged_57 : decode cX7_judged 57 = .ok (.ireturn, 1) := by decide +kernel
theorem dX7_judged_58 : decode cX7_judged 58 = .ok (.aload_n 0, 1) := by decide +kernel
theorem dX7_judged_59 : decode cX7_judged 59 = .ok (.getfield 22, 3) := by decide +kernel
theorem dX7_judged_62 : decode cX7_judged 62 = .ok (.iload_n 1, 1) := by decide +kernel
theorem dX7_judged_63 : decode cX7_judged 63 = .ok (.iconst 1, 1) := by decide +kernel
theorem dX7_judged_64 : decode cX7_judged 64 = .ok (.if_icmp .ne 8, 3) := by decide +kernel
theorem dX7_judged_67 : decode cX7_judged 67 = .ok (.bipush 8, 2) := by decide +kernel
theorem dX7_judged_69 : decode cX7_judged 69 = .ok (.goto 4, 3) := by decide +kernel
theorem dX7_judged_72 : decode cX7_judged 72 = .ok (.iconst 4, 1) := by decide +kernel
theorem dX7_judged_73 : decode cX7_judged 73 = .ok (.iload_n 2, 1) := by decide +kernel
theorem dX7_judged_74 : decode cX7_judged 74 = .ok (.iadd, 1) := by decide +kernel
theorem dX7_judged_75 : decode cX7_judged 75 = .ok (.iload 4, 2) := by decide +kernel
theorem dX7_judged_77 : decode cX7_judged 77 = .ok (.iastore, 1) := by decide +kernel
theorem dX7_judged_78 : decode cX7_judged 78 = .ok (.iconst 1, 1) := by decide +kernel
theorem dX7_judged_79 : decode cX7_judged 79 = .ok (.ireturn, 1) := by decide +kernel
theorem dX7_judged_80 : decode cX7_judged 80 = .ok (.aload_n 0, 1) := by decide +kernel
theorem dX7_judged_81 : decode cX7_judged 81 = .ok (.iload_n 2, 1) := by decide +kernel
theorem dX7_judged_82 : decode cX7_judged 82 = .ok (.invokevirtual 178, 3) := by decide +kernel
theorem dX7_judged_85 : decode cX7_judged 85 = .ok (.ifCond .eq 20, 3) := by decide +kernel
theorem dX7_judged_88 : decode cX7_judged 88 = .ok (.iload_n 3, 1) := by decide +kernel
theorem dX7_judged_89 : decode cX7_judged 89 = .ok (.ifCond .ne 16, 3) := by decide +kernel
theorem dX7_judged_92 : decode cX7_judged 92 = .ok (.iload 4, 2) := by decide +kernel
theorem dX7_judged_94 : decode cX7_judged 94 = .ok (.i2l, 1) := by decide +kernel
theorem dX7_judged_95 : decode cX7_judged 95 = .ok (.lconst 1, 1) := by decide +kernel
theorem dX7_judged_96 : decode cX7_judged 96 = .ok (.ldc2_w 97, 3) := by decide +kernel
theorem dX7_judged_99 : decode cX7_judged 99 = .ok (.invokestatic 67, 3) := by decide +kernel
theorem dX7_judged_102 : decode cX7_judged 102 = .ok (.ifCond .ne 5, 3) := by decide +kernel
theorem dX7_judged_105 : decode cX7_judged 105 = .ok (.iconst 0, 1) := by decide +kernel
theorem dX7_judged_106 : decode cX7_judged 106 = .ok (.ireturn, 1) := by decide +kernel
theorem dX7_judged_107 : decode cX7_judged 107 = .ok (.aload_n 0, 1) := by decide +kernel
theorem dX7_judged_108 : decode cX7_judged 108 = .ok (.getfield 22, 3) := by decide +kernel
theorem dX7_judged_111 : decode cX7_judged 111 = .ok (.iload_n 2, 1) := by decide +kernel
theorem dX7_judged_112 : decode cX7_judged 112 = .ok (.iload 4, 2) := by decide +kernel
theorem dX7_judged_114 : decode cX7_judged 114 = .ok (.iastore, 1) := by decide +kernel
theorem dX7_judged_115 : decode cX7_judged 115 = .ok (.iconst 1, 1) := by decide +kernel
theorem dX7_judged_116 : decode cX7_judged 116 = .ok (.ireturn, 1) := by decide +kernel
theorem dX7_judged_117 : decode cX7_judged 117 = .ok (.iload_n 2, 1) := by decide +kernel
theorem dX7_judged_118 : decode cX7_judged 118 = .ok (.ifCond .ne 13, 3) := by decide +kernel
theorem dX7_judged_121 : decode cX7_judged 121 = .ok (.iload_n 3, 1) := by decide +kernel
theorem dX7_judged_122 : decode cX7_judged 122 = .ok (.ifCond .ne 9, 3) := by decide +kernel
theorem dX7_judged_125 : decode cX7_judged 125 = .ok (.iload 4, 2) := by decide +kernel
theorem dX7_judged_127 : decode cX7_judged 127 = .ok (.iconst 4, 1) := by decide +kernel
theorem dX7_judged_128 : decode cX7_judged 128 = .ok (.if_icmp .le 5, 3) := by decide +kernel
theorem dX7_judged_131 : decode cX7_judged 131 = .ok (.iconst 0, 1) := by decide +kernel
theorem dX7_judged_132 : decode cX7_judged 132 = .ok (.ireturn, 1) := by decide +kernel
theorem dX7_judged_133 : decode cX7_judged 133 = .ok (.aload_n 0, 1) := by decide +kernel
theorem dX7_judged_134 : decode cX7_judged 134 = .ok (.getfield 22, 3) := by decide +kernel
theorem dX7_judged_137 : decode cX7_judged 137 = .ok (.bipush 12, 2) := by decide +kernel
theorem dX7_judged_139 : decode cX7_judged 139 = .ok (.iload 4, 2) := by decide +kernel
theorem dX7_judged_141 : decode cX7_judged 141 = .ok (.iastore, 1) := by decide +kernel
theorem dX7_judged_142 : decode cX7_judged 142 = .ok (.iconst 1, 1) := by decide +kernel
theorem dX7_judged_143 : decode cX7_judged 143 = .ok (.ireturn, 1) := by decide +kernel
theorem dX7_judged_144 : decode cX7_judged 144 = .ok (.aload_n 0, 1) := by decide +kernel
theorem dX7_judged_145 : decode cX7_judged 145 = .ok (.iload_n 2, 1) := by decide +kernel
theorem dX7_judged_146 : decode cX7_judged 146 = .ok (.invokevirtual 178, 3) := by decide +kernel
theorem dX7_judged_149 : decode cX7_judged 149 = .ok (.ifCond .eq 43, 3) := by decide +kernel
theorem dX7_judged_152 : decode cX7_judged 152 = .ok (.iload_n 3, 1) := by decide +kernel
theorem dX7_judged_153 : decode cX7_judged 153 = .ok (.ifCond .ne 39, 3) := by decide +kernel
theorem dX7_judged_156 : decode cX7_judged 156 = .ok (.aload_n 0, 1) := by decide +kernel
theorem dX7_judged_157 : decode cX7_judged 157 = .ok (.aload_n 0, 1) := by decide +kernel
theorem dX7_judged_158 : decode cX7_judged 158 = .ok (.getfield 22, 3) := by decide +kernel
theorem dX7_judged_161 : decode cX7_judged 161 = .ok (.aload_n 0, 1) := by decide +kernel
theorem dX7_judged_162 : decode cX7_judged 162 = .ok (.invokevirtual 147, 3) := by decide +kernel
theorem dX7_judged_165 : decode cX7_judged 165 = .ok (.invokevirtual 150, 3) := by decide +kernel
theorem dX7_judged_168 : decode cX7_judged 168 = .ok (.bipush (-9), 2) := by decide +kernel
theorem dX7_judged_170 : decode cX7_judged 170 = .ok (.if_icmp .eq 22, 3) := by decide +kernel
theorem dX7_judged_173 : decode cX7_judged 173 = .ok (.aload_n 0, 1) := by decide +kernel
theorem dX7_judged_174 : decode cX7_judged 174 = .ok (.aload_n 0, 1) := by decide +kernel
theorem dX7_judged_175 : decode cX7_judged 175 = .ok (.getfield 136, 3) := by decide +kernel
theorem dX7_judged_178 : decode cX7_judged 178 = .ok (.iconst 5, 1) := by decide +kernel
theorem dX7_judged_179 : decode cX7_judged 179 = .ok (.iload_n 2, 1) := by decide +kernel
theorem dX7_judged_180 : decode cX7_judged 180 = .ok (.invokevirtual 119, 3) := by decide +kernel
theorem dX7_judged_183 : decode cX7_judged 183 = .ok (.iload 4, 2) := by decide +kernel
theorem dX7_judged_185 : decode cX7_judged 185 = .ok (.if_icmp .ne 7, 3) := by decide +kernel
theorem dX7_judged_188 : decode cX7_judged 188 = .ok (.iconst 1, 1) := by decide +kernel
theorem dX7_judged_189 : decode cX7_judged 189 = .ok (.goto 4, 3) := by decide +kernel
theorem dX7_judged_192 : decode cX7_judged 192 = .ok (.iconst 0, 1) := by decide +kernel
theorem dX7_judged_193 : decode cX7_judged 193 = .ok (.ireturn, 1) := by decide +kernel
theorem dX7_judged_194 : decode cX7_judged 194 = .ok (.iload_n 2, 1) := by decide +kernel
theorem dX7_judged_195 : decode cX7_judged 195 = .ok (.ifCond .ne 38, 3) := by decide +kernel
theorem dX7_judged_198 : decode cX7_judged 198 = .ok (.aload_n 0, 1) := by decide +kernel
theorem dX7_judged_199 : decode cX7_judged 199 = .ok (.aload_n 0, 1) := by decide +kernel
theorem dX7_judged_200 : decode cX7_judged 200 = .ok (.getfield 22, 3) := by decide +kernel
theorem dX7_judged_203 : decode cX7_judged 203 = .ok (.aload_n 0, 1) := by decide +kernel
theorem dX7_judged_204 : decode cX7_judged 204 = .ok (.invokevirtual 147, 3) := by decide +kernel
theorem dX7_judged_207 : decode cX7_judged 207 = .ok (.invokevirtual 150, 3) := by decide +kernel
theorem dX7_judged_210 : decode cX7_judged 210 = .ok (.bipush (-9), 2) := by decide +kernel
theorem dX7_judged_212 : decode cX7_judged 212 = .ok (.if_icmp .eq 21, 3) := by decide +kernel
theorem dX7_judged_215 : decode cX7_judged 215 = .ok (.aload_n 0, 1) := by decide +kernel
theorem dX7_judged_216 : decode cX7_judged 216 = .ok (.getfield 133, 3) := by decide +kernel
theorem dX7_judged_219 : decode cX7_judged 219 = .ok (.bipush 10, 2) := by decide +kernel
theorem dX7_judged_221 : decode cX7_judged 221 = .ok (.iload_n 3, 1) := by decide +kernel
theorem dX7_judged_222 : decode cX7_judged 222 = .ok (.imul, 1) := by decide +kernel
theorem dX7_judged_223 : decode cX7_judged 223 = .ok (.iload 4, 2) := by decide +kernel
theorem dX7_judged_225 : decode cX7_judged 225 = .ok (.iadd, 1) := by decide +kernel
theorem dX7_judged_226 : decode cX7_judged 226 = .ok (.if_icmp .gt 7, 3) := by decide +kernel
theorem dX7_judged_229 : decode cX7_judged 229 = .ok (.iconst 1, 1) := by decide +kernel
theorem dX7_judged_230 : decode cX7_judged 230 = .ok (.goto 4, 3) := by decide +kernel
theorem dX7_judged_233 : decode cX7_judged 233 = .ok (.iconst 0, 1) := by decide +kernel
theorem dX7_judged_234 : decode cX7_judged 234 = .ok (.ireturn, 1) := by decide +kernel
theorem dX7_judged_235 : decode cX7_judged 235 = .ok (.iload_n 2, 1) := by decide +kernel
theorem dX7_judged_236 : decode cX7_judged 236 = .ok (.ifCond .ne 28, 3) := by decide +kernel
theorem dX7_judged_239 : decode cX7_judged 239 = .ok (.iload_n 3, 1) := by decide +kernel
theorem dX7_judged_240 : decode cX7_judged 240 = .ok (.ifCond .ne 24, 3) := by decide +kernel
theorem dX7_judged_243 : decode cX7_judged 243 = .ok (.aload_n 0, 1) := by decide +kernel
theorem dX7_judged_244 : decode cX7_judged 244 = .ok (.aload_n 0, 1) := by decide +kernel
theorem dX7_judged_245 : decode cX7_judged 245 = .ok (.getfield 22, 3) := by decide +kernel
theorem dX7_judged_248 : decode cX7_judged 248 = .ok (.aload_n 0, 1) := by decide +kernel
theorem dX7_judged_249 : decode cX7_judged 249 = .ok (.invokevirtual 147, 3) := by decide +kernel
theorem dX7_judged_252 : decode cX7_judged 252 = .ok (.invokevirtual 169, 3) := by decide +kernel
theorem dX7_judged_255 : decode cX7_judged 255 = .ok (.iload 4, 2) := by decide +kernel
theorem dX7_judged_257 : decode cX7_judged 257 = .ok (.if_icmp .ne 7, 3) := by decide +kernel
theorem dX7_judged_260 : decode cX7_judged 260 = .ok (.iconst 1, 1) := by decide +kernel
theorem dX7_judged_261 : decode cX7_judged 261 = .ok (.goto 4, 3) := by decide +kernel
theorem dX7_judged_264 : decode cX7_judged 264 = .ok (.iconst 0, 1) := by decide +kernel
theorem dX7_judged_265 : decode cX7_judged 265 = .ok (.ireturn, 1) := by decide +kernel
theorem dX7_judged_266 : decode cX7_judged 266 = .ok (.iconst 0, 1) := by decide +kernel
theorem dX7_judged_267 : decode cX7_judged 267 = .ok (.ireturn, 1) := by decide +kernel
theorem dX7_tenThousands_0 : decode cX7_tenThousands 0 = .ok (.lconst 1, 1) := by decide +kernel
theorem dX7_tenThousands_1 : decode cX7_tenThousands 1 = .ok (.lstore_n 1, 1) := by decide +kernel
theorem dX7_tenThousands_2 : decode cX7_tenThousands 2 = .ok (.iconst 0, 1) := by decide +kernel
theorem dX7_tenThousands_3 : decode cX7_tenThousands 3 = .ok (.istore_n 3, 1) := by decide +kernel
theorem dX7_tenThousands_4 : decode cX7_tenThousands 4 = .ok (.iload_n 3, 1) := by decide +kernel
theorem dX7_tenThousands_5 : decode cX7_tenThousands 5 = .ok (.iload_n 0, 1) := by decide +kernel
theorem dX7_tenThousands_6 : decode cX7_tenThousands 6 = .ok (.if_icmp .ge 15, 3) := by decide +kernel
theorem dX7_tenThousands_9 : decode cX7_tenThousands 9 = .ok (.lload_n 1, 1) := by decide +kernel
theorem dX7_tenThousands_10 : decode cX7_tenThousands 10 = .ok (.ldc2_w 200, 3) := by decide +kernel
theorem dX7_tenThousands_13 : decode cX7_tenThousands 13 = .ok (.lmul, 1) := by decide +kernel
theorem dX7_tenThousands_14 : decode cX7_tenThousands 14 = .ok (.lstore_n 1, 1) := by decide +kernel
theorem dX7_tenThousands_15 : decode cX7_tenThousands 15 = .ok (.iinc 3 1, 3) := by decide +kernel
theorem dX7_tenThousands_18 : decode cX7_tenThousands 18 = .ok (.goto (-14), 3) := by decide +kernel
theorem dX7_tenThousands_21 : decode cX7_tenThousands 21 = .ok (.lload_n 1, 1) := by decide +kernel
theorem dX7_tenThousands_22 : decode cX7_tenThousands 22 = .ok (.lreturn, 1) := by decide +kernel
theorem dX7_judge_0 : decode cX7_judge 0 = .ok (.iload_n 1, 1) := by decide +kernel
theorem dX7_judge_1 : decode cX7_judge 1 = .ok (.i2l, 1) := by decide +kernel
theorem dX7_judge_2 : decode cX7_judge 2 = .ok (.lconst 1, 1) := by decide +kernel
theorem dX7_judge_3 : decode cX7_judge 3 = .ok (.ldc2_w 193, 3) := by decide +kernel
theorem dX7_judge_6 : decode cX7_judge 6 = .ok (.invokestatic 67, 3) := by decide +kernel
theorem dX7_judge_9 : decode cX7_judge 9 = .ok (.ifCond .eq 17, 3) := by decide +kernel
theorem dX7_judge_12 : decode cX7_judge 12 = .ok (.lload_n 2, 1) := by decide +kernel
theorem dX7_judge_13 : decode cX7_judge 13 = .ok (.lconst 0, 1) := by decide +kernel
theorem dX7_judge_14 : decode cX7_judge 14 = .ok (.iload_n 1, 1) := by decide +kernel
theorem dX7_judge_15 : decode cX7_judge 15 = .ok (.invokestatic 202, 3) := by decide +kernel
theorem dX7_judge_18 : decode cX7_judge 18 = .ok (.lconst 1, 1) := by decide +kernel
theorem dX7_judge_19 : decode cX7_judge 19 = .ok (.lsub, 1) := by decide +kernel
theorem dX7_judge_20 : decode cX7_judge 20 = .ok (.invokestatic 67, 3) := by decide +kernel
theorem dX7_judge_23 : decode cX7_judge 23 = .ok (.ifCond .ne 6, 3) := by decide +kernel
theorem dX7_judge_26 : decode cX7_judge 26 = .ok (.bipush (-2), 2) := by decide +kernel
theorem dX7_judge_28 : decode cX7_judge 28 = .ok (.ireturn, 1) := by decide +kernel
theorem dX7_judge_29 : decode cX7_judge 29 = .ok (.aload_n 0, 1) := by decide +kernel
theorem dX7_judge_30 : decode cX7_judge 30 = .ok (.invokevirtual 157, 3) := by decide +kernel
theorem dX7_judge_33 : decode cX7_judge 33 = .ok (.iconst 0, 1) := by decide +kernel
theorem dX7_judge_34 : decode cX7_judge 34 = .ok (.istore 4, 2) := by decide +kernel
theorem dX7_judge_36 : decode cX7_judge 36 = .ok (.iload 4, 2) := by decide +kernel
theorem dX7_judge_38 : decode cX7_judge 38 = .ok (.iload_n 1, 1) := by decide +kernel
theorem dX7_judge_39 : decode cX7_judge 39 = .ok (.if_icmp .ge 64, 3) := by decide +kernel
theorem dX7_judge_42 : decode cX7_judge 42 = .ok (.lload_n 2, 1) := by decide +kernel
theorem dX7_judge_43 : decode cX7_judge 43 = .ok (.iload_n 1, 1) := by decide +kernel
theorem dX7_judge_44 : decode cX7_judge 44 = .ok (.iconst 1, 1) := by decide +kernel
theorem dX7_judge_45 : decode cX7_judge 45 = .ok (.isub, 1) := by decide +kernel
theorem dX7_judge_46 : decode cX7_judge 46 = .ok (.iload 4, 2) := by decide +kernel
theorem dX7_judge_48 : decode cX7_judge 48 = .ok (.isub, 1) := by decide +kernel
theorem dX7_judge_49 : decode cX7_judge 49 = .ok (.invokestatic 202, 3) := by decide +kernel
theorem dX7_judge_52 : decode cX7_judge 52 = .ok (.ldiv, 1) := by decide +kernel
theorem dX7_judge_53 : decode cX7_judge 53 = .ok (.ldc2_w 200, 3) := by decide +kernel
theorem dX7_judge_56 : decode cX7_judge 56 = .ok (.lrem, 1) := by decide +kernel
theorem dX7_judge_57 : decode cX7_judge 57 = .ok (.l2i, 1) := by decide +kernel
theorem dX7_judge_58 : decode cX7_judge 58 = .ok (.istore 5, 2) := by decide +kernel
theorem dX7_judge_60 : decode cX7_judge 60 = .ok (.aload_n 0, 1) := by decide +kernel
theorem dX7_judge_61 : decode cX7_judge 61 = .ok (.iload 5, 2) := by decide +kernel
theorem dX7_judge_63 : decode cX7_judge 63 = .ok (.sipush 1000, 3) := by decide +kernel
theorem dX7_judge_66 : decode cX7_judge 66 = .ok (.idiv, 1) := by decide +kernel
theorem dX7_judge_67 : decode cX7_judge 67 = .ok (.iload 5, 2) := by decide +kernel
theorem dX7_judge_69 : decode cX7_judge 69 = .ok (.bipush 100, 2) := by decide +kernel
theorem dX7_judge_71 : decode cX7_judge 71 = .ok (.idiv, 1) := by decide +kernel
theorem dX7_judge_72 : decode cX7_judge 72 = .ok (.bipush 10, 2) := by decide +kernel
theorem dX7_judge_74 : decode cX7_judge 74 = .ok (.irem, 1) := by decide +kernel
theorem dX7_judge_75 : decode cX7_judge 75 = .ok (.iload 5, 2) := by decide +kernel
theorem dX7_judge_77 : decode cX7_judge 77 = .ok (.bipush 10, 2) := by decide +kernel
theorem dX7_judge_79 : decode cX7_judge 79 = .ok (.idiv, 1) := by decide +kernel
theorem dX7_judge_80 : decode cX7_judge 80 = .ok (.bipush 10, 2) := by decide +kernel
theorem dX7_judge_82 : decode cX7_judge 82 = .ok (.irem, 1) := by decide +kernel
theorem dX7_judge_83 : decode cX7_judge 83 = .ok (.iload 5, 2) := by decide +kernel
theorem dX7_judge_85 : decode cX7_judge 85 = .ok (.bipush 10, 2) := by decide +kernel
theorem dX7_judge_87 : decode cX7_judge 87 = .ok (.irem, 1) := by decide +kernel
theorem dX7_judge_88 : decode cX7_judge 88 = .ok (.invokevirtual 206, 3) := by decide +kernel
theorem dX7_judge_91 : decode cX7_judge 91 = .ok (.ifCond .ne 6, 3) := by decide +kernel
theorem dX7_judge_94 : decode cX7_judge 94 = .ok (.iload 4, 2) := by decide +kernel
theorem dX7_judge_96 : decode cX7_judge 96 = .ok (.ireturn, 1) := by decide +kernel
theorem dX7_judge_97 : decode cX7_judge 97 = .ok (.iinc 4 1, 3) := by decide +kernel
theorem dX7_judge_100 : decode cX7_judge 100 = .ok (.goto (-64), 3) := by decide +kernel
theorem dX7_judge_103 : decode cX7_judge 103 = .ok (.bipush (-9), 2) := by decide +kernel
theorem dX7_judge_105 : decode cX7_judge 105 = .ok (.ireturn, 1) := by decide +kernel
theorem dX7_makerAt_0 : decode cX7_makerAt 0 = .ok (.iload_n 0, 1) := by decide +kernel
theorem dX7_makerAt_1 : decode cX7_makerAt 1 = .ok (.iconst 2, 1) := by decide +kernel
theorem dX7_makerAt_2 : decode cX7_makerAt 2 = .ok (.iload_n 1, 1) := by decide +kernel
theorem dX7_makerAt_3 : decode cX7_makerAt 3 = .ok (.imul, 1) := by decide +kernel
theorem dX7_makerAt_4 : decode cX7_makerAt 4 = .ok (.ishr, 1) := by decide +kernel
theorem dX7_makerAt_5 : decode cX7_makerAt 5 = .ok (.iconst 3, 1) := by decide +kernel
theorem dX7_makerAt_6 : decode cX7_makerAt 6 = .ok (.iand, 1) := by decide +kernel
theorem dX7_makerAt_7 : decode cX7_makerAt 7 = .ok (.ireturn, 1) := by decide +kernel
theorem dX7_isOrder_0 : decode cX7_isOrder 0 = .ok (.iconst 0, 1) := by decide +kernel
theorem dX7_isOrder_1 : decode cX7_isOrder 1 = .ok (.istore_n 2, 1) := by decide +kernel
theorem dX7_isOrder_2 : decode cX7_isOrder 2 = .ok (.iconst 0, 1) := by decide +kernel
theorem dX7_isOrder_3 : decode cX7_isOrder 3 = .ok (.istore_n 3, 1) := by decide +kernel
theorem dX7_isOrder_4 : decode cX7_isOrder 4 = .ok (.iload_n 3, 1) := by decide +kernel
theorem dX7_isOrder_5 : decode cX7_isOrder 5 = .ok (.aload_n 0, 1) := by decide +kernel
theorem dX7_isOrder_6 : decode cX7_isOrder 6 = .ok (.getfield 71, 3) := by decide +kernel
theorem dX7_isOrder_9 : decode cX7_isOrder 9 = .ok (.if_icmp .ge 19, 3) := by decide +kernel
theorem dX7_isOrder_12 : decode cX7_isOrder 12 = .ok (.iload_n 2, 1) := by decide +kernel
theorem dX7_isOrder_13 : decode cX7_isOrder 13 = .ok (.iconst 1, 1) := by decide +kernel
theorem dX7_isOrder_14 : decode cX7_isOrder 14 = .ok (.iload_n 1, 1) := by decide +kernel
theorem dX7_isOrder_15 : decode cX7_isOrder 15 = .ok (.iload_n 3, 1) := by decide +kernel
theorem dX7_isOrder_16 : decode cX7_isOrder 16 = .ok (.invokestatic 210, 3) := by decide +kernel
theorem dX7_isOrder_19 : decode cX7_isOrder 19 = .ok (.ishl, 1) := by decide +kernel
theorem dX7_isOrder_20 : decode cX7_isOrder 20 = .ok (.ior, 1) := by decide +kernel
theorem dX7_isOrder_21 : decode cX7_isOrder 21 = .ok (.istore_n 2, 1) := by decide +kernel
theorem dX7_isOrder_22 : decode cX7_isOrder 22 = .ok (.iinc 3 1, 3) := by decide +kernel
theorem dX7_isOrder_25 : decode cX7_isOrder 25 = .ok (.goto (-21), 3) := by decide +kernel
theorem dX7_isOrder_28 : decode cX7_isOrder 28 = .ok (.iload_n 2, 1) := by decide +kernel
theorem dX7_isOrder_29 : decode cX7_isOrder 29 = .ok (.aload_n 0, 1) := by decide +kernel
theorem dX7_isOrder_30 : decode cX7_isOrder 30 = .ok (.invokevirtual 147, 3) := by decide +kernel
theorem dX7_isOrder_33 : decode cX7_isOrder 33 = .ok (.if_icmp .ne 7, 3) := by decide +kernel
theorem dX7_isOrder_36 : decode cX7_isOrder 36 = .ok (.iconst 1, 1) := by decide +kernel
theorem dX7_isOrder_37 : decode cX7_isOrder 37 = .ok (.goto 4, 3) := by decide +kernel
theorem dX7_isOrder_40 : decode cX7_isOrder 40 = .ok (.iconst 0, 1) := by decide +kernel
theorem dX7_isOrder_41 : decode cX7_isOrder 41 = .ok (.ireturn, 1) := by decide +kernel
theorem dX7_share_0 : decode cX7_share 0 = .ok (.aload_n 0, 1) := by decide +kernel
theorem dX7_share_1 : decode cX7_share 1 = .ok (.iload_n 1, 1) := by decide +kernel
theorem dX7_share_2 : decode cX7_share 2 = .ok (.invokevirtual 123, 3) := by decide +kernel
theorem dX7_share_5 : decode cX7_share 5 = .ok (.ifCond .ne 5, 3) := by decide +kernel
theorem dX7_share_8 : decode cX7_share 8 = .ok (.iconst (-1), 1) := by decide +kernel
theorem dX7_share_9 : decode cX7_share 9 = .ok (.ireturn, 1) := by decide +kernel
theorem dX7_share_10 : decode cX7_share 10 = .ok (.iconst 0, 1) := by decide +kernel
theorem dX7_share_11 : decode cX7_share 11 = .ok (.istore_n 3, 1) := by decide +kernel
theorem dX7_share_12 : decode cX7_share 12 = .ok (.iload_n 3, 1) := by decide +kernel
theorem dX7_share_13 : decode cX7_share 13 = .ok (.aload_n 0, 1) := by decide +kernel
theorem dX7_share_14 : decode cX7_share 14 = .ok (.invokevirtual 147, 3) := by decide +kernel
theorem dX7_share_17 : decode cX7_share 17 = .ok (.if_icmp .gt 24, 3) := by decide +kernel
theorem dX7_share_20 : decode cX7_share 20 = .ok (.aload_n 0, 1) := by decide +kernel
theorem dX7_share_21 : decode cX7_share 21 = .ok (.getfield 56, 3) := by decide +kernel
theorem dX7_share_24 : decode cX7_share 24 = .ok (.iload_n 3, 1) := by decide +kernel
theorem dX7_share_25 : decode cX7_share 25 = .ok (.aload_n 0, 1) := by decide +kernel
theorem dX7_share_26 : decode cX7_share 26 = .ok (.aload_n 0, 1) := by decide +kernel
theorem dX7_share_27 : decode cX7_share 27 = .ok (.getfield 19, 3) := by decide +kernel
theorem dX7_share_30 : decode cX7_share 30 = .ok (.iload_n 3, 1) := by decide +kernel
theorem dX7_share_31 : decode cX7_share 31 = .ok (.invokevirtual 169, 3) := by decide +kernel
theorem dX7_share_34 : decode cX7_share 34 = .ok (.iastore, 1) := by decide +kernel
theorem dX7_share_35 : decode cX7_share 35 = .ok (.iinc 3 1, 3) := by decide +kernel
theorem dX7_share_38 : decode cX7_share 38 = .ok (.goto (-26), 3) := by decide +kernel
theorem dX7_share_41 : decode cX7_share 41 = .ok (.iconst 0, 1) := by decide +kernel
theorem dX7_share_42 : decode cX7_share 42 = .ok (.istore_n 3, 1) := by decide +kernel
theorem dX7_share_43 : decode cX7_share 43 = .ok (.iconst 0, 1) := by decide +kernel
theorem dX7_share_44 : decode cX7_share 44 = .ok (.istore 4, 2) := by decide +kernel
theorem dX7_share_46 : decode cX7_share 46 = .ok (.iconst 0, 1) := by decide +kernel
theorem dX7_share_47 : decode cX7_share 47 = .ok (.istore 5, 2) := by decide +kernel
theorem dX7_share_49 : decode cX7_share 49 = .ok (.iload 5, 2) := by decide +kernel
theorem dX7_share_51 : decode cX7_share 51 = .ok (.iconst 1, 1) := by decide +kernel
theorem dX7_share_52 : decode cX7_share 52 = .ok (.iconst 2, 1) := by decide +kernel
theorem dX7_share_53 : decode cX7_share 53 = .ok (.aload_n 0, 1) := by decide +kernel
theorem dX7_share_54 : decode cX7_share 54 = .ok (.getfield 71, 3) := by decide +kernel
theorem dX7_share_57 : decode cX7_share 57 = .ok (.imul, 1) := by decide +kernel
theorem dX7_share_58 : decode cX7_share 58 = .ok (.ishl, 1) := by decide +kernel
theorem dX7_share_59 : decode cX7_share 59 = .ok (.if_icmp .ge 80, 3) := by decide +kernel
theorem dX7_share_62 : decode cX7_share 62 = .ok (.aload_n 0, 1) := by decide +kernel
theorem dX7_share_63 : decode cX7_share 63 = .ok (.iload 5, 2) := by decide +kernel
theorem dX7_share_65 : decode cX7_share 65 = .ok (.invokevirtual 213, 3) := by decide +kernel
theorem dX7_share_68 : decode cX7_share 68 = .ok (.ifCond .eq 65, 3) := by decide +kernel
theorem dX7_share_71 : decode cX7_share 71 = .ok (.iconst 0, 1) := by decide +kernel
theorem dX7_share_72 : decode cX7_share 72 = .ok (.istore 6, 2) := by decide +kernel
theorem dX7_share_74 : decode cX7_share 74 = .ok (.iconst 0, 1) := by decide +kernel
theorem dX7_share_75 : decode cX7_share 75 = .ok (.istore 7, 2) := by decide +kernel
theorem dX7_share_77 : decode cX7_share 77 = .ok (.iload 5, 2) := by decide +kernel
theorem dX7_share_79 : decode cX7_share 79 = .ok (.iload 7, 2) := by decide +kernel
theorem dX7_share_81 : decode cX7_share 81 = .ok (.invokestatic 210, 3) := by decide +kernel
theorem dX7_share_84 : decode cX7_share 84 = .ok (.iload_n 1, 1) := by decide +kernel
theorem dX7_share_85 : decode cX7_share 85 = .ok (.if_icmp .eq 23, 3) := by decide +kernel
theorem dX7_share_88 : decode cX7_share 88 = .ok (.iload 6, 2) := by decide +kernel
theorem dX7_share_90 : decode cX7_share 90 = .ok (.iconst 1, 1) := by decide +kernel
theorem dX7_share_91 : decode cX7_share 91 = .ok (.iload 5, 2) := by decide +kernel
theorem dX7_share_93 : decode cX7_share 93 = .ok (.iload 7, 2) := by decide +kernel
theorem dX7_share_95 : decode cX7_share 95 = .ok (.invokestatic 210, 3) := by decide +kernel
theorem dX7_share_98 : decode cX7_share 98 = .ok (.ishl, 1) := by decide +kernel
theorem dX7_share_99 : decode cX7_share 99 = .ok (.ior, 1) := by decide +kernel
theorem dX7_share_100 : decode cX7_share 100 = .ok (.istore 6, 2) := by decide +kernel
theorem dX7_share_102 : decode cX7_share 102 = .ok (.iinc 7 1, 3) := by decide +kernel
theorem dX7_share_105 : decode cX7_share 105 = .ok (.goto (-28), 3) := by decide +kernel
theorem dX7_share_108 : decode cX7_share 108 = .ok (.iload_n 3, 1) := by decide +kernel
theorem dX7_share_109 : decode cX7_share 109 = .ok (.aload_n 0, 1) := by decide +kernel
theorem dX7_share_110 : decode cX7_share 110 = .ok (.getfield 56, 3) := by decide +kernel
theorem dX7_share_113 : decode cX7_share 113 = .ok (.iload 6, 2) := by decide +kernel
theorem dX7_share_115 : decode cX7_share 115 = .ok (.iconst 1, 1) := by decide +kernel
theorem dX7_share_116 : decode cX7_share 116 = .ok (.iload_n 1, 1) := by decide +kernel
theorem dX7_share_117 : decode cX7_share 117 = .ok (.ishl, 1) := by decide +kernel
theorem dX7_share_118 : decode cX7_share 118 = .ok (.ior, 1) := by decide +kernel
theorem dX7_share_119 : decode cX7_share 119 = .ok (.iaload, 1) := by decide +kernel
theorem dX7_share_120 : decode cX7_share 120 = .ok (.aload_n 0, 1) := by decide +kernel
theorem dX7_share_121 : decode cX7_share 121 = .ok (.getfield 56, 3) := by decide +kernel
theorem dX7_share_124 : decode cX7_share 124 = .ok (.iload 6, 2) := by decide +kernel
theorem dX7_share_126 : decode cX7_share 126 = .ok (.iaload, 1) := by decide +kernel
theorem dX7_share_127 : decode cX7_share 127 = .ok (.isub, 1) := by decide +kernel
theorem dX7_share_128 : decode cX7_share 128 = .ok (.iadd, 1) := by decide +kernel
theorem dX7_share_129 : decode cX7_share 129 = .ok (.istore_n 3, 1) := by decide +kernel
theorem dX7_share_130 : decode cX7_share 130 = .ok (.iinc 4 1, 3) := by decide +kernel
theorem dX7_share_133 : decode cX7_share 133 = .ok (.iinc 5 1, 3) := by decide +kernel
theorem dX7_share_136 : decode cX7_share 136 = .ok (.goto (-87), 3) := by decide +kernel
theorem dX7_share_139 : decode cX7_share 139 = .ok (.iload_n 3, 1) := by decide +kernel
theorem dX7_share_140 : decode cX7_share 140 = .ok (.iload 4, 2) := by decide +kernel
theorem dX7_share_142 : decode cX7_share 142 = .ok (.iload_n 2, 1) := by decide +kernel
theorem dX7_share_143 : decode cX7_share 143 = .ok (.invokestatic 216, 3) := by decide +kernel
theorem dX7_share_146 : decode cX7_share 146 = .ok (.ireturn, 1) := by decide +kernel
theorem dX7_see_0 : decode cX7_see 0 = .ok (.aload_n 0, 1) := by decide +kernel
theorem dX7_see_1 : decode cX7_see 1 = .ok (.iload_n 1, 1) := by decide +kernel
theorem dX7_see_2 : decode cX7_see 2 = .ok (.invokevirtual 178, 3) := by decide +kernel
theorem dX7_see_5 : decode cX7_see 5 = .ok (.ifCond .eq 17, 3) := by decide +kernel
theorem dX7_see_8 : decode cX7_see 8 = .ok (.aload_n 0, 1) := by decide +kernel
theorem dX7_see_9 : decode cX7_see 9 = .ok (.iload_n 2, 1) := by decide +kernel
theorem dX7_see_10 : decode cX7_see 10 = .ok (.invokevirtual 123, 3) := by decide +kernel
theorem dX7_see_13 : decode cX7_see 13 = .ok (.ifCond .ne 11, 3) := by decide +kernel
theorem dX7_see_16 : decode cX7_see 16 = .ok (.iload_n 2, 1) := by decide +kernel
theorem dX7_see_17 : decode cX7_see 17 = .ok (.bipush 9, 2) := by decide +kernel
theorem dX7_see_19 : decode cX7_see 19 = .ok (.if_icmp .eq 5, 3) := by decide +kernel
theorem dX7_see_22 : decode cX7_see 22 = .ok (.iconst (-1), 1) := by decide +kernel
theorem dX7_see_23 : decode cX7_see 23 = .ok (.ireturn, 1) := by decide +kernel
theorem dX7_see_24 : decode cX7_see 24 = .ok (.iload_n 3, 1) := by decide +kernel
theorem dX7_see_25 : decode cX7_see 25 = .ok (.i2l, 1) := by decide +kernel
theorem dX7_see_26 : decode cX7_see 26 = .ok (.lconst 0, 1) := by decide +kernel
theorem dX7_see_27 : decode cX7_see 27 = .ok (.lconst 1, 1) := by decide +kernel
theorem dX7_see_28 : decode cX7_see 28 = .ok (.invokestatic 67, 3) := by decide +kernel
theorem dX7_see_31 : decode cX7_see 31 = .ok (.ifCond .ne 6, 3) := by decide +kernel
theorem dX7_see_34 : decode cX7_see 34 = .ok (.bipush (-2), 2) := by decide +kernel
theorem dX7_see_36 : decode cX7_see 36 = .ok (.ireturn, 1) := by decide +kernel
theorem dX7_see_37 : decode cX7_see 37 = .ok (.aload_n 0, 1) := by decide +kernel
theorem dX7_see_38 : decode cX7_see 38 = .ok (.getfield 175, 3) := by decide +kernel
theorem dX7_see_41 : decode cX7_see 41 = .ok (.bipush 6, 2) := by decide +kernel
theorem dX7_see_43 : decode cX7_see 43 = .ok (.if_icmp .ne 6, 3) := by decide +kernel
theorem dX7_see_46 : decode cX7_see 46 = .ok (.bipush (-4), 2) := by decide +kernel
theorem dX7_see_48 : decode cX7_see 48 = .ok (.ireturn, 1) := by decide +kernel
theorem dX7_see_49 : decode cX7_see 49 = .ok (.aload_n 0, 1) := by decide +kernel
theorem dX7_see_50 : decode cX7_see 50 = .ok (.getfield 44, 3) := by decide +kernel
theorem dX7_see_53 : decode cX7_see 53 = .ok (.aload_n 0, 1) := by decide +kernel
theorem dX7_see_54 : decode cX7_see 54 = .ok (.getfield 175, 3) := by decide +kernel
theorem dX7_see_57 : decode cX7_see 57 = .ok (.iload_n 1, 1) := by decide +kernel
theorem dX7_see_58 : decode cX7_see 58 = .ok (.iastore, 1) := by decide +kernel
theorem dX7_see_59 : decode cX7_see 59 = .ok (.aload_n 0, 1) := by decide +kernel
theorem dX7_see_60 : decode cX7_see 60 = .ok (.getfield 47, 3) := by decide +kernel
theorem dX7_see_63 : decode cX7_see 63 = .ok (.aload_n 0, 1) := by decide +kernel
theorem dX7_see_64 : decode cX7_see 64 = .ok (.getfield 175, 3) := by decide +kernel
theorem dX7_see_67 : decode cX7_see 67 = .ok (.iload_n 2, 1) := by decide +kernel
theorem dX7_see_68 : decode cX7_see 68 = .ok (.iastore, 1) := by decide +kernel
theorem dX7_see_69 : decode cX7_see 69 = .ok (.aload_n 0, 1) := by decide +kernel
theorem dX7_see_70 : decode cX7_see 70 = .ok (.getfield 50, 3) := by decide +kernel
theorem dX7_see_73 : decode cX7_see 73 = .ok (.aload_n 0, 1) := by decide +kernel
theorem dX7_see_74 : decode cX7_see 74 = .ok (.getfield 175, 3) := by decide +kernel
theorem dX7_see_77 : decode cX7_see 77 = .ok (.iload_n 3, 1) := by decide +kernel
theorem dX7_see_78 : decode cX7_see 78 = .ok (.iastore, 1) := by decide +kernel
theorem dX7_see_79 : decode cX7_see 79 = .ok (.aload_n 0, 1) := by decide +kernel
theorem dX7_see_80 : decode cX7_see 80 = .ok (.dup, 1) := by decide +kernel
theorem dX7_see_81 : decode cX7_see 81 = .ok (.getfield 175, 3) := by decide +kernel
theorem dX7_see_84 : decode cX7_see 84 = .ok (.iconst 1, 1) := by decide +kernel
theorem dX7_see_85 : decode cX7_see 85 = .ok (.iadd, 1) := by decide +kernel
theorem dX7_see_86 : decode cX7_see 86 = .ok (.putfield 175, 3) := by decide +kernel
theorem dX7_see_89 : decode cX7_see 89 = .ok (.aload_n 0, 1) := by decide +kernel
theorem dX7_see_90 : decode cX7_see 90 = .ok (.getfield 175, 3) := by decide +kernel
theorem dX7_see_93 : decode cX7_see 93 = .ok (.ireturn, 1) := by decide +kernel
theorem dX7_unsee_0 : decode cX7_unsee 0 = .ok (.aload_n 0, 1) := by decide +kernel
theorem dX7_unsee_1 : decode cX7_unsee 1 = .ok (.getfield 175, 3) := by decide +kernel
theorem dX7_unsee_4 : decode cX7_unsee 4 = .ok (.istore_n 1, 1) := by decide +kernel
theorem dX7_unsee_5 : decode cX7_unsee 5 = .ok (.aload_n 0, 1) := by decide +kernel
theorem dX7_unsee_6 : decode cX7_unsee 6 = .ok (.iconst 0, 1) := by decide +kernel
theorem dX7_unsee_7 : decode cX7_unsee 7 = .ok (.putfield 175, 3) := by decide +kernel
theorem dX7_unsee_10 : decode cX7_unsee 10 = .ok (.iload_n 1, 1) := by decide +kernel
theorem dX7_unsee_11 : decode cX7_unsee 11 = .ok (.ireturn, 1) := by decide +kernel
theorem dX7_agrees_0 : decode cX7_agrees 0 = .ok (.aload_n 0, 1) := by decide +kernel
theorem dX7_agrees_1 : decode cX7_agrees 1 = .ok (.aload_n 0, 1) := by decide +kernel
theorem dX7_agrees_2 : decode cX7_agrees 2 = .ok (.getfield 22, 3) := by decide +kernel
theorem dX7_agrees_5 : decode cX7_agrees 5 = .ok (.aload_n 0, 1) := by decide +kernel
theorem dX7_agrees_6 : decode cX7_agrees 6 = .ok (.invokevirtual 147, 3) := by decide +kernel
theorem dX7_agrees_9 : decode cX7_agrees 9 = .ok (.invokevirtual 143, 3) := by decide +kernel
theorem dX7_agrees_12 : decode cX7_agrees 12 = .ok (.iconst 1, 1) := by decide +kernel
theorem dX7_agrees_13 : decode cX7_agrees 13 = .ok (.istore_n 1, 1) := by decide +kernel
theorem dX7_agrees_14 : decode cX7_agrees 14 = .ok (.iconst 0, 1) := by decide +kernel
theorem dX7_agrees_15 : decode cX7_agrees 15 = .ok (.istore_n 2, 1) := by decide +kernel
theorem dX7_agrees_16 : decode cX7_agrees 16 = .ok (.iload_n 2, 1) := by decide +kernel
theorem dX7_agrees_17 : decode cX7_agrees 17 = .ok (.aload_n 0, 1) := by decide +kernel
theorem dX7_agrees_18 : decode cX7_agrees 18 = .ok (.getfield 175, 3) := by decide +kernel
theorem dX7_agrees_21 : decode cX7_agrees 21 = .ok (.if_icmp .ge 90, 3) := by decide +kernel
theorem dX7_agrees_24 : decode cX7_agrees 24 = .ok (.aload_n 0, 1) := by decide +kernel
theorem dX7_agrees_25 : decode cX7_agrees 25 = .ok (.getfield 133, 3) := by decide +kernel
theorem dX7_agrees_28 : decode cX7_agrees 28 = .ok (.bipush (-9), 2) := by decide +kernel
theorem dX7_agrees_30 : decode cX7_agrees 30 = .ok (.if_icmp .eq 44, 3) := by decide +kernel
theorem dX7_agrees_33 : decode cX7_agrees 33 = .ok (.aload_n 0, 1) := by decide +kernel
theorem dX7_agrees_34 : decode cX7_agrees 34 = .ok (.aload_n 0, 1) := by decide +kernel
theorem dX7_agrees_35 : decode cX7_agrees 35 = .ok (.getfield 44, 3) := by decide +kernel
theorem dX7_agrees_38 : decode cX7_agrees 38 = .ok (.iload_n 2, 1) := by decide +kernel
theorem dX7_agrees_39 : decode cX7_agrees 39 = .ok (.iaload, 1) := by decide +kernel
theorem dX7_agrees_40 : decode cX7_agrees 40 = .ok (.invokevirtual 178, 3) := by decide +kernel
theorem dX7_agrees_43 : decode cX7_agrees 43 = .ok (.ifCond .eq 31, 3) := by decide +kernel
theorem dX7_agrees_46 : decode cX7_agrees 46 = .ok (.aload_n 0, 1) := by decide +kernel
theorem dX7_agrees_47 : decode cX7_agrees 47 = .ok (.aload_n 0, 1) := by decide +kernel
theorem dX7_agrees_48 : decode cX7_agrees 48 = .ok (.getfield 136, 3) := by decide +kernel
theorem dX7_agrees_51 : decode cX7_agrees 51 = .ok (.iconst 5, 1) := by decide +kernel
theorem dX7_agrees_52 : decode cX7_agrees 52 = .ok (.aload_n 0, 1) := by decide +kernel
theorem dX7_agrees_53 : decode cX7_agrees 53 = .ok (.getfield 44, 3) := by decide +kernel
theorem dX7_agrees_56 : decode cX7_agrees 56 = .ok (.iload_n 2, 1) := by decide +kernel
theorem dX7_agrees_57 : decode cX7_agrees 57 = .ok (.iaload, 1) := by decide +kernel
theorem dX7_agrees_58 : decode cX7_agrees 58 = .ok (.invokevirtual 119, 3) := by decide +kernel
theorem dX7_agrees_61 : decode cX7_agrees 61 = .ok (.aload_n 0, 1) := by decide +kernel
theorem dX7_agrees_62 : decode cX7_agrees 62 = .ok (.getfield 47, 3) := by decide +kernel
theorem dX7_agrees_65 : decode cX7_agrees 65 = .ok (.iload_n 2, 1) := by decide +kernel
theorem dX7_agrees_66 : decode cX7_agrees 66 = .ok (.iaload, 1) := by decide +kernel
theorem dX7_agrees_67 : decode cX7_agrees 67 = .ok (.if_icmp .ne 7, 3) := by decide +kernel
theorem dX7_agrees_70 : decode cX7_agrees 70 = .ok (.iconst 1, 1) := by decide +kernel
theorem dX7_agrees_71 : decode cX7_agrees 71 = .ok (.goto 4, 3) := by decide +kernel
theorem dX7_agrees_74 : decode cX7_agrees 74 = .ok (.iconst 0, 1) := by decide +kernel
theorem dX7_agrees_75 : decode cX7_agrees 75 = .ok (.istore_n 3, 1) := by decide +kernel
theorem dX7_agrees_76 : decode cX7_agrees 76 = .ok (.iload_n 1, 1) := by decide +kernel
theorem dX7_agrees_77 : decode cX7_agrees 77 = .ok (.ifCond .eq 26, 3) := by decide +kernel
theorem dX7_agrees_80 : decode cX7_agrees 80 = .ok (.iload_n 3, 1) := by decide +kernel
theorem dX7_agrees_81 : decode cX7_agrees 81 = .ok (.aload_n 0, 1) := by decide +kernel
theorem dX7_agrees_82 : decode cX7_agrees 82 = .ok (.getfield 50, 3) := by decide +kernel
theorem dX7_agrees_85 : decode cX7_agrees 85 = .ok (.iload_n 2, 1) := by decide +kernel
theorem dX7_agrees_86 : decode cX7_agrees 86 = .ok (.iaload, 1) := by decide +kernel
theorem dX7_agrees_87 : decode cX7_agrees 87 = .ok (.iconst 1, 1) := by decide +kernel
theorem dX7_agrees_88 : decode cX7_agrees 88 = .ok (.if_icmp .ne 7, 3) := by decide +kernel
theorem dX7_agrees_91 : decode cX7_agrees 91 = .ok (.iconst 1, 1) := by decide +kernel
theorem dX7_agrees_92 : decode cX7_agrees 92 = .ok (.goto 4, 3) := by decide +kernel
theorem dX7_agrees_95 : decode cX7_agrees 95 = .ok (.iconst 0, 1) := by decide +kernel
theorem dX7_agrees_96 : decode cX7_agrees 96 = .ok (.if_icmp .ne 7, 3) := by decide +kernel
theorem dX7_agrees_99 : decode cX7_agrees 99 = .ok (.iconst 1, 1) := by decide +kernel
theorem dX7_agrees_100 : decode cX7_agrees 100 = .ok (.goto 4, 3) := by decide +kernel
theorem dX7_agrees_103 : decode cX7_agrees 103 = .ok (.iconst 0, 1) := by decide +kernel
theorem dX7_agrees_104 : decode cX7_agrees 104 = .ok (.istore_n 1, 1) := by decide +kernel
theorem dX7_agrees_105 : decode cX7_agrees 105 = .ok (.iinc 2 1, 3) := by decide +kernel
theorem dX7_agrees_108 : decode cX7_agrees 108 = .ok (.goto (-92), 3) := by decide +kernel
theorem dX7_agrees_111 : decode cX7_agrees 111 = .ok (.iload_n 1, 1) := by decide +kernel
theorem dX7_agrees_112 : decode cX7_agrees 112 = .ok (.ireturn, 1) := by decide +kernel
theorem dX7_which_0 : decode cX7_which 0 = .ok (.iload_n 1, 1) := by decide +kernel
theorem dX7_which_1 : decode cX7_which 1 = .ok (.i2l, 1) := by decide +kernel
theorem dX7_which_2 : decode cX7_which 2 = .ok (.lconst 0, 1) := by decide +kernel
theorem dX7_which_3 : decode cX7_which 3 = .ok (.lconst 1, 1) := by decide +kernel
theorem dX7_which_4 : decode cX7_which 4 = .ok (.invokestatic 67, 3) := by decide +kernel
theorem dX7_which_7 : decode cX7_which 7 = .ok (.ifCond .ne 6, 3) := by decide +kernel
theorem dX7_which_10 : decode cX7_which 10 = .ok (.bipush (-2), 2) := by decide +kernel
theorem dX7_which_12 : decode cX7_which 12 = .ok (.ireturn, 1) := by decide +kernel
theorem dX7_which_13 : decode cX7_which 13 = .ok (.iconst 0, 1) := by decide +kernel
theorem dX7_which_14 : decode cX7_which 14 = .ok (.istore_n 2, 1) := by decide +kernel
theorem dX7_which_15 : decode cX7_which 15 = .ok (.bipush (-9), 2) := by decide +kernel
theorem dX7_which_17 : decode cX7_which 17 = .ok (.istore_n 3, 1) := by decide +kernel
theorem dX7_which_18 : decode cX7_which 18 = .ok (.aload_n 0, 1) := by decide +kernel
theorem dX7_which_19 : decode cX7_which 19 = .ok (.getfield 71, 3) := by decide +kernel
theorem dX7_which_22 : decode cX7_which 22 = .ok (.iconst 1, 1) := by decide +kernel
theorem dX7_which_23 : decode cX7_which 23 = .ok (.isub, 1) := by decide +kernel
theorem dX7_which_24 : decode cX7_which 24 = .ok (.istore 4, 2) := by decide +kernel
theorem dX7_which_26 : decode cX7_which 26 = .ok (.iload 4, 2) := by decide +kernel
theorem dX7_which_28 : decode cX7_which 28 = .ok (.ifCond .lt 74, 3) := by decide +kernel
theorem dX7_which_31 : decode cX7_which 31 = .ok (.bipush 9, 2) := by decide +kernel
theorem dX7_which_33 : decode cX7_which 33 = .ok (.istore 5, 2) := by decide +kernel
theorem dX7_which_35 : decode cX7_which 35 = .ok (.iload 5, 2) := by decide +kernel
theorem dX7_which_37 : decode cX7_which 37 = .ok (.ifCond .lt 59, 3) := by decide +kernel
theorem dX7_which_40 : decode cX7_which 40 = .ok (.aload_n 0, 1) := by decide +kernel
theorem dX7_which_41 : decode cX7_which 41 = .ok (.invokevirtual 157, 3) := by decide +kernel
theorem dX7_which_44 : decode cX7_which 44 = .ok (.aload_n 0, 1) := by decide +kernel
theorem dX7_which_45 : decode cX7_which 45 = .ok (.getfield 22, 3) := by decide +kernel
theorem dX7_which_48 : decode cX7_which 48 = .ok (.bipush 8, 2) := by decide +kernel
theorem dX7_which_50 : decode cX7_which 50 = .ok (.iload 4, 2) := by decide +kernel
theorem dX7_which_52 : decode cX7_which 52 = .ok (.iadd, 1) := by decide +kernel
theorem dX7_which_53 : decode cX7_which 53 = .ok (.iload 5, 2) := by decide +kernel
theorem dX7_which_55 : decode cX7_which 55 = .ok (.iastore, 1) := by decide +kernel
theorem dX7_which_56 : decode cX7_which 56 = .ok (.iload 5, 2) := by decide +kernel
theorem dX7_which_58 : decode cX7_which 58 = .ok (.aload_n 0, 1) := by decide +kernel
theorem dX7_which_59 : decode cX7_which 59 = .ok (.getfield 19, 3) := by decide +kernel
theorem dX7_which_62 : decode cX7_which 62 = .ok (.bipush 8, 2) := by decide +kernel
theorem dX7_which_64 : decode cX7_which 64 = .ok (.iload 4, 2) := by decide +kernel
theorem dX7_which_66 : decode cX7_which 66 = .ok (.iadd, 1) := by decide +kernel
theorem dX7_which_67 : decode cX7_which 67 = .ok (.iaload, 1) := by decide +kernel
theorem dX7_which_68 : decode cX7_which 68 = .ok (.if_icmp .eq 22, 3) := by decide +kernel
theorem dX7_which_71 : decode cX7_which 71 = .ok (.aload_n 0, 1) := by decide +kernel
theorem dX7_which_72 : decode cX7_which 72 = .ok (.invokevirtual 220, 3) := by decide +kernel
theorem dX7_which_75 : decode cX7_which 75 = .ok (.ifCond .eq 15, 3) := by decide +kernel
theorem dX7_which_78 : decode cX7_which 78 = .ok (.iinc 2 1, 3) := by decide +kernel
theorem dX7_which_81 : decode cX7_which 81 = .ok (.bipush 10, 2) := by decide +kernel
theorem dX7_which_83 : decode cX7_which 83 = .ok (.iload 4, 2) := by decide +kernel
theorem dX7_which_85 : decode cX7_which 85 = .ok (.imul, 1) := by decide +kernel
theorem dX7_which_86 : decode cX7_which 86 = .ok (.iload 5, 2) := by decide +kernel
theorem dX7_which_88 : decode cX7_which 88 = .ok (.iadd, 1) := by decide +kernel
theorem dX7_which_89 : decode cX7_which 89 = .ok (.istore_n 3, 1) := by decide +kernel
theorem dX7_which_90 : decode cX7_which 90 = .ok (.iinc 5 (-1), 3) := by decide +kernel
theorem dX7_which_93 : decode cX7_which 93 = .ok (.goto (-58), 3) := by decide +kernel
theorem dX7_which_96 : decode cX7_which 96 = .ok (.iinc 4 (-1), 3) := by decide +kernel
theorem dX7_which_99 : decode cX7_which 99 = .ok (.goto (-73), 3) := by decide +kernel
theorem dX7_which_102 : decode cX7_which 102 = .ok (.iload_n 1, 1) := by decide +kernel
theorem dX7_which_103 : decode cX7_which 103 = .ok (.ifCond .ne 7, 3) := by decide +kernel
theorem dX7_which_106 : decode cX7_which 106 = .ok (.iload_n 2, 1) := by decide +kernel
theorem dX7_which_107 : decode cX7_which 107 = .ok (.goto 4, 3) := by decide +kernel
theorem dX7_which_110 : decode cX7_which 110 = .ok (.iload_n 3, 1) := by decide +kernel
theorem dX7_which_111 : decode cX7_which 111 = .ok (.ireturn, 1) := by decide +kernel
theorem dX7_gone_0 : decode cX7_gone 0 = .ok (.iload_n 1, 1) := by decide +kernel
theorem dX7_gone_1 : decode cX7_gone 1 = .ok (.i2l, 1) := by decide +kernel
theorem dX7_gone_2 : decode cX7_gone 2 = .ok (.lconst 0, 1) := by decide +kernel
theorem dX7_gone_3 : decode cX7_gone 3 = .ok (.ldc2_w 224, 3) := by decide +kernel
theorem dX7_gone_6 : decode cX7_gone 6 = .ok (.invokestatic 67, 3) := by decide +kernel
theorem dX7_gone_9 : decode cX7_gone 9 = .ok (.ifCond .ne 6, 3) := by decide +kernel
theorem dX7_gone_12 : decode cX7_gone 12 = .ok (.bipush (-2), 2) := by decide +kernel
theorem dX7_gone_14 : decode cX7_gone 14 = .ok (.ireturn, 1) := by decide +kernel
theorem dX7_gone_15 : decode cX7_gone 15 = .ok (.iconst 0, 1) := by decide +kernel
theorem dX7_gone_16 : decode cX7_gone 16 = .ok (.istore_n 3, 1) := by decide +kernel
theorem dX7_gone_17 : decode cX7_gone 17 = .ok (.iconst 0, 1) := by decide +kernel
theorem dX7_gone_18 : decode cX7_gone 18 = .ok (.istore 4, 2) := by decide +kernel
theorem dX7_gone_20 : decode cX7_gone 20 = .ok (.iload 4, 2) := by decide +kernel
theorem dX7_gone_22 : decode cX7_gone 22 = .ok (.aload_n 0, 1) := by decide +kernel
theorem dX7_gone_23 : decode cX7_gone 23 = .ok (.invokevirtual 147, 3) := by decide +kernel
theorem dX7_gone_26 : decode cX7_gone 26 = .ok (.if_icmp .gt 77, 3) := by decide +kernel
theorem dX7_gone_29 : decode cX7_gone 29 = .ok (.iconst 1, 1) := by decide +kernel
theorem dX7_gone_30 : decode cX7_gone 30 = .ok (.istore 5, 2) := by decide +kernel
theorem dX7_gone_32 : decode cX7_gone 32 = .ok (.iconst 0, 1) := by decide +kernel
theorem dX7_gone_33 : decode cX7_gone 33 = .ok (.istore 6, 2) := by decide +kernel
theorem dX7_gone_35 : decode cX7_gone 35 = .ok (.iload 6, 2) := by decide +kernel
theorem dX7_gone_37 : decode cX7_gone 37 = .ok (.aload_n 0, 1) := by decide +kernel
theorem dX7_gone_38 : decode cX7_gone 38 = .ok (.getfield 71, 3) := by decide +kernel
theorem dX7_gone_41 : decode cX7_gone 41 = .ok (.if_icmp .ge 32, 3) := by decide +kernel
theorem dX7_gone_44 : decode cX7_gone 44 = .ok (.iload 5, 2) := by decide +kernel
theorem dX7_gone_46 : decode cX7_gone 46 = .ok (.iload 4, 2) := by decide +kernel
theorem dX7_gone_48 : decode cX7_gone 48 = .ok (.iload 6, 2) := by decide +kernel
theorem dX7_gone_50 : decode cX7_gone 50 = .ok (.invokestatic 126, 3) := by decide +kernel
theorem dX7_gone_53 : decode cX7_gone 53 = .ok (.ifCond .eq 10, 3) := by decide +kernel
theorem dX7_gone_56 : decode cX7_gone 56 = .ok (.bipush 10, 2) := by decide +kernel
theorem dX7_gone_58 : decode cX7_gone 58 = .ok (.iload_n 1, 1) := by decide +kernel
theorem dX7_gone_59 : decode cX7_gone 59 = .ok (.isub, 1) := by decide +kernel
theorem dX7_gone_60 : decode cX7_gone 60 = .ok (.goto 4, 3) := by decide +kernel
theorem dX7_gone_63 : decode cX7_gone 63 = .ok (.iload_n 1, 1) := by decide +kernel
theorem dX7_gone_64 : decode cX7_gone 64 = .ok (.imul, 1) := by decide +kernel
theorem dX7_gone_65 : decode cX7_gone 65 = .ok (.istore 5, 2) := by decide +kernel
theorem dX7_gone_67 : decode cX7_gone 67 = .ok (.iinc 6 1, 3) := by decide +kernel
theorem dX7_gone_70 : decode cX7_gone 70 = .ok (.goto (-35), 3) := by decide +kernel
theorem dX7_gone_73 : decode cX7_gone 73 = .ok (.iload_n 3, 1) := by decide +kernel
theorem dX7_gone_74 : decode cX7_gone 74 = .ok (.aload_n 0, 1) := by decide +kernel
theorem dX7_gone_75 : decode cX7_gone 75 = .ok (.aload_n 0, 1) := by decide +kernel
theorem dX7_gone_76 : decode cX7_gone 76 = .ok (.getfield 19, 3) := by decide +kernel
theorem dX7_gone_79 : decode cX7_gone 79 = .ok (.iload 4, 2) := by decide +kernel
theorem dX7_gone_81 : decode cX7_gone 81 = .ok (.invokevirtual 150, 3) := by decide +kernel
theorem dX7_gone_84 : decode cX7_gone 84 = .ok (.bipush (-9), 2) := by decide +kernel
theorem dX7_gone_86 : decode cX7_gone 86 = .ok (.if_icmp .ne 7, 3) := by decide +kernel
theorem dX7_gone_89 : decode cX7_gone 89 = .ok (.iconst 0, 1) := by decide +kernel
theorem dX7_gone_90 : decode cX7_gone 90 = .ok (.goto 5, 3) := by decide +kernel
theorem dX7_gone_93 : decode cX7_gone 93 = .ok (.iload 5, 2) := by decide +kernel
theorem dX7_gone_95 : decode cX7_gone 95 = .ok (.iadd, 1) := by decide +kernel
theorem dX7_gone_96 : decode cX7_gone 96 = .ok (.istore_n 3, 1) := by decide +kernel
theorem dX7_gone_97 : decode cX7_gone 97 = .ok (.iinc 4 1, 3) := by decide +kernel
theorem dX7_gone_100 : decode cX7_gone 100 = .ok (.goto (-80), 3) := by decide +kernel
theorem dX7_gone_103 : decode cX7_gone 103 = .ok (.iload_n 3, 1) := by decide +kernel
theorem dX7_gone_104 : decode cX7_gone 104 = .ok (.bipush 10, 2) := by decide +kernel
theorem dX7_gone_106 : decode cX7_gone 106 = .ok (.aload_n 0, 1) := by decide +kernel
theorem dX7_gone_107 : decode cX7_gone 107 = .ok (.getfield 71, 3) := by decide +kernel
theorem dX7_gone_110 : decode cX7_gone 110 = .ok (.invokestatic 116, 3) := by decide +kernel
theorem dX7_gone_113 : decode cX7_gone 113 = .ok (.iload_n 2, 1) := by decide +kernel
theorem dX7_gone_114 : decode cX7_gone 114 = .ok (.invokestatic 216, 3) := by decide +kernel
theorem dX7_gone_117 : decode cX7_gone 117 = .ok (.ireturn, 1) := by decide +kernel
theorem dX7_seed_0 : decode cX7_seed 0 = .ok (.aload_n 0, 1) := by decide +kernel
theorem dX7_seed_1 : decode cX7_seed 1 = .ok (.getfield 226, 3) := by decide +kernel
theorem dX7_seed_4 : decode cX7_seed 4 = .ok (.lstore_n 3, 1) := by decide +kernel
theorem dX7_seed_5 : decode cX7_seed 5 = .ok (.aload_n 0, 1) := by decide +kernel
theorem dX7_seed_6 : decode cX7_seed 6 = .ok (.lload_n 1, 1) := by decide +kernel
theorem dX7_seed_7 : decode cX7_seed 7 = .ok (.putfield 226, 3) := by decide +kernel
theorem dX7_seed_10 : decode cX7_seed 10 = .ok (.lload_n 3, 1) := by decide +kernel
theorem dX7_seed_11 : decode cX7_seed 11 = .ok (.lreturn, 1) := by decide +kernel
theorem dX7_drawn_0 : decode cX7_drawn 0 = .ok (.iload_n 1, 1) := by decide +kernel
theorem dX7_drawn_1 : decode cX7_drawn 1 = .ok (.i2l, 1) := by decide +kernel
theorem dX7_drawn_2 : decode cX7_drawn 2 = .ok (.lconst 1, 1) := by decide +kernel
theorem dX7_drawn_3 : decode cX7_drawn 3 = .ok (.ldc2_w 230, 3) := by decide +kernel
theorem dX7_drawn_6 : decode cX7_drawn 6 = .ok (.invokestatic 67, 3) := by decide +kernel
theorem dX7_drawn_9 : decode cX7_drawn 9 = .ok (.ifCond .ne 6, 3) := by decide +kernel
theorem dX7_drawn_12 : decode cX7_drawn 12 = .ok (.bipush (-2), 2) := by decide +kernel
theorem dX7_drawn_14 : decode cX7_drawn 14 = .ok (.ireturn, 1) := by decide +kernel
theorem dX7_drawn_15 : decode cX7_drawn 15 = .ok (.aload_n 0, 1) := by decide +kernel
theorem dX7_drawn_16 : decode cX7_drawn 16 = .ok (.invokevirtual 157, 3) := by decide +kernel
theorem dX7_drawn_19 : decode cX7_drawn 19 = .ok (.iconst 0, 1) := by decide +kernel
theorem dX7_drawn_20 : decode cX7_drawn 20 = .ok (.istore_n 2, 1) := by decide +kernel
theorem dX7_drawn_21 : decode cX7_drawn 21 = .ok (.iconst 0, 1) := by decide +kernel
theorem dX7_drawn_22 : decode cX7_drawn 22 = .ok (.istore_n 3, 1) := by decide +kernel
theorem dX7_drawn_23 : decode cX7_drawn 23 = .ok (.iload_n 3, 1) := by decide +kernel
theorem dX7_drawn_24 : decode cX7_drawn 24 = .ok (.iload_n 1, 1) := by decide +kernel
theorem dX7_drawn_25 : decode cX7_drawn 25 = .ok (.if_icmp .ge 95, 3) := by decide +kernel
theorem dX7_drawn_28 : decode cX7_drawn 28 = .ok (.iconst 0, 1) := by decide +kernel
theorem dX7_drawn_29 : decode cX7_drawn 29 = .ok (.istore 4, 2) := by decide +kernel
theorem dX7_drawn_31 : decode cX7_drawn 31 = .ok (.iload 4, 2) := by decide +kernel
theorem dX7_drawn_33 : decode cX7_drawn 33 = .ok (.aload_n 0, 1) := by decide +kernel
theorem dX7_drawn_34 : decode cX7_drawn 34 = .ok (.getfield 71, 3) := by decide +kernel
theorem dX7_drawn_37 : decode cX7_drawn 37 = .ok (.if_icmp .ge 47, 3) := by decide +kernel
theorem dX7_drawn_40 : decode cX7_drawn 40 = .ok (.aload_n 0, 1) := by decide +kernel
theorem dX7_drawn_41 : decode cX7_drawn 41 = .ok (.aload_n 0, 1) := by decide +kernel
theorem dX7_drawn_42 : decode cX7_drawn 42 = .ok (.getfield 226, 3) := by decide +kernel
theorem dX7_drawn_45 : decode cX7_drawn 45 = .ok (.ldc2_w 232, 3) := by decide +kernel
theorem dX7_drawn_48 : decode cX7_drawn 48 = .ok (.lmul, 1) := by decide +kernel
theorem dX7_drawn_49 : decode cX7_drawn 49 = .ok (.ldc2_w 234, 3) := by decide +kernel
theorem dX7_drawn_52 : decode cX7_drawn 52 = .ok (.ladd, 1) := by decide +kernel
theorem dX7_drawn_53 : decode cX7_drawn 53 = .ok (.putfield 226, 3) := by decide +kernel
theorem dX7_drawn_56 : decode cX7_drawn 56 = .ok (.aload_n 0, 1) := by decide +kernel
theorem dX7_drawn_57 : decode cX7_drawn 57 = .ok (.getfield 22, 3) := by decide +kernel
theorem dX7_drawn_60 : decode cX7_drawn 60 = .ok (.bipush 8, 2) := by decide +kernel
theorem dX7_drawn_62 : decode cX7_drawn 62 = .ok (.iload 4, 2) := by decide +kernel
theorem dX7_drawn_64 : decode cX7_drawn 64 = .ok (.iadd, 1) := by decide +kernel
theorem dX7_drawn_65 : decode cX7_drawn 65 = .ok (.aload_n 0, 1) := by decide +kernel
theorem dX7_drawn_66 : decode cX7_drawn 66 = .ok (.getfield 226, 3) := by decide +kernel
theorem dX7_drawn_69 : decode cX7_drawn 69 = .ok (.bipush 33, 2) := by decide +kernel
theorem dX7_drawn_71 : decode cX7_drawn 71 = .ok (.lushr, 1) := by decide +kernel
theorem dX7_drawn_72 : decode cX7_drawn 72 = .ok (.ldc2_w 224, 3) := by decide +kernel
theorem dX7_drawn_75 : decode cX7_drawn 75 = .ok (.lrem, 1) := by decide +kernel
theorem dX7_drawn_76 : decode cX7_drawn 76 = .ok (.l2i, 1) := by decide +kernel
theorem dX7_drawn_77 : decode cX7_drawn 77 = .ok (.iastore, 1) := by decide +kernel
theorem dX7_drawn_78 : decode cX7_drawn 78 = .ok (.iinc 4 1, 3) := by decide +kernel
theorem dX7_drawn_81 : decode cX7_drawn 81 = .ok (.goto (-50), 3) := by decide +kernel
theorem dX7_drawn_84 : decode cX7_drawn 84 = .ok (.aload_n 0, 1) := by decide +kernel
theorem dX7_drawn_85 : decode cX7_drawn 85 = .ok (.aload_n 0, 1) := by decide +kernel
theorem dX7_drawn_86 : decode cX7_drawn 86 = .ok (.getfield 22, 3) := by decide +kernel
theorem dX7_drawn_89 : decode cX7_drawn 89 = .ok (.aload_n 0, 1) := by decide +kernel
theorem dX7_drawn_90 : decode cX7_drawn 90 = .ok (.invokevirtual 147, 3) := by decide +kernel
theorem dX7_drawn_93 : decode cX7_drawn 93 = .ok (.invokevirtual 150, 3) := by decide +kernel
theorem dX7_drawn_96 : decode cX7_drawn 96 = .ok (.istore 4, 2) := by decide +kernel
theorem dX7_drawn_98 : decode cX7_drawn 98 = .ok (.iload_n 2, 1) := by decide +kernel
theorem dX7_drawn_99 : decode cX7_drawn 99 = .ok (.iload 4, 2) := by decide +kernel
theorem dX7_drawn_101 : decode cX7_drawn 101 = .ok (.bipush (-9), 2) := by decide +kernel
theorem dX7_drawn_103 : decode cX7_drawn 103 = .ok (.if_icmp .ne 7, 3) := by decide +kernel
theorem dX7_drawn_106 : decode cX7_drawn 106 = .ok (.iconst 0, 1) := by decide +kernel
theorem dX7_drawn_107 : decode cX7_drawn 107 = .ok (.goto 5, 3) := by decide +kernel
theorem dX7_drawn_110 : decode cX7_drawn 110 = .ok (.iload 4, 2) := by decide +kernel
theorem dX7_drawn_112 : decode cX7_drawn 112 = .ok (.iadd, 1) := by decide +kernel
theorem dX7_drawn_113 : decode cX7_drawn 113 = .ok (.istore_n 2, 1) := by decide +kernel
theorem dX7_drawn_114 : decode cX7_drawn 114 = .ok (.iinc 3 1, 3) := by decide +kernel
theorem dX7_drawn_117 : decode cX7_drawn 117 = .ok (.goto (-94), 3) := by decide +kernel
theorem dX7_drawn_120 : decode cX7_drawn 120 = .ok (.iload_n 2, 1) := by decide +kernel
theorem dX7_drawn_121 : decode cX7_drawn 121 = .ok (.ireturn, 1) := by decide +kernel
theorem dX7_keep_0 : decode cX7_keep 0 = .ok (.iload_n 1, 1) := by decide +kernel
theorem dX7_keep_1 : decode cX7_keep 1 = .ok (.i2l, 1) := by decide +kernel
theorem dX7_keep_2 : decode cX7_keep 2 = .ok (.lconst 0, 1) := by decide +kernel
theorem dX7_keep_3 : decode cX7_keep 3 = .ok (.lconst 1, 1) := by decide +kernel
theorem dX7_keep_4 : decode cX7_keep 4 = .ok (.invokestatic 67, 3) := by decide +kernel
theorem dX7_keep_7 : decode cX7_keep 7 = .ok (.ifCond .ne 5, 3) := by decide +kernel
theorem dX7_keep_10 : decode cX7_keep 10 = .ok (.iconst (-1), 1) := by decide +kernel
theorem dX7_keep_11 : decode cX7_keep 11 = .ok (.ireturn, 1) := by decide +kernel
theorem dX7_keep_12 : decode cX7_keep 12 = .ok (.aload_n 0, 1) := by decide +kernel
theorem dX7_keep_13 : decode cX7_keep 13 = .ok (.getfield 31, 3) := by decide +kernel
theorem dX7_keep_16 : decode cX7_keep 16 = .ok (.iload_n 1, 1) := by decide +kernel
theorem dX7_keep_17 : decode cX7_keep 17 = .ok (.iconst 1, 1) := by decide +kernel
theorem dX7_keep_18 : decode cX7_keep 18 = .ok (.bastore, 1) := by decide +kernel
theorem dX7_keep_19 : decode cX7_keep 19 = .ok (.iconst 0, 1) := by decide +kernel
theorem dX7_keep_20 : decode cX7_keep 20 = .ok (.istore_n 2, 1) := by decide +kernel
theorem dX7_keep_21 : decode cX7_keep 21 = .ok (.iload_n 2, 1) := by decide +kernel
theorem dX7_keep_22 : decode cX7_keep 22 = .ok (.bipush 13, 2) := by decide +kernel
theorem dX7_keep_24 : decode cX7_keep 24 = .ok (.if_icmp .ge 26, 3) := by decide +kernel
theorem dX7_keep_27 : decode cX7_keep 27 = .ok (.aload_n 0, 1) := by decide +kernel
theorem dX7_keep_28 : decode cX7_keep 28 = .ok (.getfield 28, 3) := by decide +kernel
theorem dX7_keep_31 : decode cX7_keep 31 = .ok (.bipush 13, 2) := by decide +kernel
theorem dX7_keep_33 : decode cX7_keep 33 = .ok (.iload_n 1, 1) := by decide +kernel
theorem dX7_keep_34 : decode cX7_keep 34 = .ok (.imul, 1) := by decide +kernel
theorem dX7_keep_35 : decode cX7_keep 35 = .ok (.iload_n 2, 1) := by decide +kernel
theorem dX7_keep_36 : decode cX7_keep 36 = .ok (.iadd, 1) := by decide +kernel
theorem dX7_keep_37 : decode cX7_keep 37 = .ok (.aload_n 0, 1) := by decide +kernel
theorem dX7_keep_38 : decode cX7_keep 38 = .ok (.getfield 19, 3) := by decide +kernel
theorem dX7_keep_41 : decode cX7_keep 41 = .ok (.iload_n 2, 1) := by decide +kernel
theorem dX7_keep_42 : decode cX7_keep 42 = .ok (.iaload, 1) := by decide +kernel
theorem dX7_keep_43 : decode cX7_keep 43 = .ok (.iastore, 1) := by decide +kernel
theorem dX7_keep_44 : decode cX7_keep 44 = .ok (.iinc 2 1, 3) := by decide +kernel
theorem dX7_keep_47 : decode cX7_keep 47 = .ok (.goto (-26), 3) := by decide +kernel
theorem dX7_keep_50 : decode cX7_keep 50 = .ok (.aload_n 0, 1) := by decide +kernel
theorem dX7_keep_51 : decode cX7_keep 51 = .ok (.getfield 71, 3) := by decide +kernel
theorem dX7_keep_54 : decode cX7_keep 54 = .ok (.ireturn, 1) := by decide +kernel
theorem dX7_again_0 : decode cX7_again 0 = .ok (.iload_n 1, 1) := by decide +kernel
theorem dX7_again_1 : decode cX7_again 1 = .ok (.i2l, 1) := by decide +kernel
theorem dX7_again_2 : decode cX7_again 2 = .ok (.lconst 0, 1) := by decide +kernel
theorem dX7_again_3 : decode cX7_again 3 = .ok (.lconst 1, 1) := by decide +kernel
theorem dX7_again_4 : decode cX7_again 4 = .ok (.invokestatic 67, 3) := by decide +kernel
theorem dX7_again_7 : decode cX7_again 7 = .ok (.ifCond .ne 5, 3) := by decide +kernel
theorem dX7_again_10 : decode cX7_again 10 = .ok (.iconst (-1), 1) := by decide +kernel
theorem dX7_again_11 : decode cX7_again 11 = .ok (.ireturn, 1) := by decide +kernel
theorem dX7_again_12 : decode cX7_again 12 = .ok (.aload_n 0, 1) := by decide +kernel
theorem dX7_again_13 : decode cX7_again 13 = .ok (.getfield 31, 3) := by decide +kernel
theorem dX7_again_16 : decode cX7_again 16 = .ok (.iload_n 1, 1) := by decide +kernel
theorem dX7_again_17 : decode cX7_again 17 = .ok (.baload, 1) := by decide +kernel
theorem dX7_again_18 : decode cX7_again 18 = .ok (.ifCond .ne 6, 3) := by decide +kernel
theorem dX7_again_21 : decode cX7_again 21 = .ok (.bipush (-3), 2) := by decide +kernel
theorem dX7_again_23 : decode cX7_again 23 = .ok (.ireturn, 1) := by decide +kernel
theorem dX7_again_24 : decode cX7_again 24 = .ok (.iconst 0, 1) := by decide +kernel
theorem dX7_again_25 : decode cX7_again 25 = .ok (.istore_n 2, 1) := by decide +kernel
theorem dX7_again_26 : decode cX7_again 26 = .ok (.iload_n 2, 1) := by decide +kernel
theorem dX7_again_27 : decode cX7_again 27 = .ok (.bipush 13, 2) := by decide +kernel
theorem dX7_again_29 : decode cX7_again 29 = .ok (.if_icmp .ge 26, 3) := by decide +kernel
theorem dX7_again_32 : decode cX7_again 32 = .ok (.aload_n 0, 1) := by decide +kernel
theorem dX7_again_33 : decode cX7_again 33 = .ok (.getfield 19, 3) := by decide +kernel
theorem dX7_again_36 : decode cX7_again 36 = .ok (.iload_n 2, 1) := by decide +kernel
theorem dX7_again_37 : decode cX7_again 37 = .ok (.aload_n 0, 1) := by decide +kernel
theorem dX7_again_38 : decode cX7_again 38 = .ok (.getfield 28, 3) := by decide +kernel
theorem dX7_again_41 : decode cX7_again 41 = .ok (.bipush 13, 2) := by decide +kernel
theorem dX7_again_43 : decode cX7_again 43 = .ok (.iload_n 1, 1) := by decide +kernel
theorem dX7_again_44 : decode cX7_again 44 = .ok (.imul, 1) := by decide +kernel
theorem dX7_again_45 : decode cX7_again 45 = .ok (.iload_n 2, 1) := by decide +kernel
theorem dX7_again_46 : decode cX7_again 46 = .ok (.iadd, 1) := by decide +kernel
theorem dX7_again_47 : decode cX7_again 47 = .ok (.iaload, 1) := by decide +kernel
theorem dX7_again_48 : decode cX7_again 48 = .ok (.iastore, 1) := by decide +kernel
theorem dX7_again_49 : decode cX7_again 49 = .ok (.iinc 2 1, 3) := by decide +kernel
theorem dX7_again_52 : decode cX7_again 52 = .ok (.goto (-26), 3) := by decide +kernel
theorem dX7_again_55 : decode cX7_again 55 = .ok (.aload_n 0, 1) := by decide +kernel
theorem dX7_again_56 : decode cX7_again 56 = .ok (.iconst 0, 1) := by decide +kernel
theorem dX7_again_57 : decode cX7_again 57 = .ok (.putfield 113, 3) := by decide +kernel
theorem dX7_again_60 : decode cX7_again 60 = .ok (.aload_n 0, 1) := by decide +kernel
theorem dX7_again_61 : decode cX7_again 61 = .ok (.getfield 71, 3) := by decide +kernel
theorem dX7_again_64 : decode cX7_again 64 = .ok (.ireturn, 1) := by decide +kernel
theorem dJ6_bitCount_0f7a4_0 : decode cJ6_bitCount_0f7a4 0 = .ok (.iload_n 0, 1) := by decide +kernel
theorem dJ6_bitCount_0f7a4_1 : decode cJ6_bitCount_0f7a4 1 = .ok (.iload_n 0, 1) := by decide +kernel
theorem dJ6_bitCount_0f7a4_2 : decode cJ6_bitCount_0f7a4 2 = .ok (.iconst 1, 1) := by decide +kernel
theorem dJ6_bitCount_0f7a4_3 : decode cJ6_bitCount_0f7a4 3 = .ok (.iushr, 1) := by decide +kernel
theorem dJ6_bitCount_0f7a4_4 : decode cJ6_bitCount_0f7a4 4 = .ok (.ldc_w 265, 3) := by decide +kernel
theorem dJ6_bitCount_0f7a4_7 : decode cJ6_bitCount_0f7a4 7 = .ok (.iand, 1) := by decide +kernel
theorem dJ6_bitCount_0f7a4_8 : decode cJ6_bitCount_0f7a4 8 = .ok (.isub, 1) := by decide +kernel
theorem dJ6_bitCount_0f7a4_9 : decode cJ6_bitCount_0f7a4 9 = .ok (.istore_n 0, 1) := by decide +kernel
theorem dJ6_bitCount_0f7a4_10 : decode cJ6_bitCount_0f7a4 10 = .ok (.iload_n 0, 1) := by decide +kernel
theorem dJ6_bitCount_0f7a4_11 : decode cJ6_bitCount_0f7a4 11 = .ok (.ldc_w 266, 3) := by decide +kernel
theorem dJ6_bitCount_0f7a4_14 : decode cJ6_bitCount_0f7a4 14 = .ok (.iand, 1) := by decide +kernel
theorem dJ6_bitCount_0f7a4_15 : decode cJ6_bitCount_0f7a4 15 = .ok (.iload_n 0, 1) := by decide +kernel
theorem dJ6_bitCount_0f7a4_16 : decode cJ6_bitCount_0f7a4 16 = .ok (.iconst 2, 1) := by decide +kernel
theorem dJ6_bitCount_0f7a4_17 : decode cJ6_bitCount_0f7a4 17 = .ok (.iushr, 1) := by decide +kernel
theorem dJ6_bitCount_0f7a4_18 : decode cJ6_bitCount_0f7a4 18 = .ok (.ldc_w 266, 3) := by decide +kernel
theorem dJ6_bitCount_0f7a4_21 : decode cJ6_bitCount_0f7a4 21 = .ok (.iand, 1) := by decide +kernel
theorem dJ6_bitCount_0f7a4_22 : decode cJ6_bitCount_0f7a4 22 = .ok (.iadd, 1) := by decide +kernel
theorem dJ6_bitCount_0f7a4_23 : decode cJ6_bitCount_0f7a4 23 = .ok (.istore_n 0, 1) := by decide +kernel
theorem dJ6_bitCount_0f7a4_24 : decode cJ6_bitCount_0f7a4 24 = .ok (.iload_n 0, 1) := by decide +kernel
theorem dJ6_bitCount_0f7a4_25 : decode cJ6_bitCount_0f7a4 25 = .ok (.iload_n 0, 1) := by decide +kernel
theorem dJ6_bitCount_0f7a4_26 : decode cJ6_bitCount_0f7a4 26 = .ok (.iconst 4, 1) := by decide +kernel
theorem dJ6_bitCount_0f7a4_27 : decode cJ6_bitCount_0f7a4 27 = .ok (.iushr, 1) := by decide +kernel
theorem dJ6_bitCount_0f7a4_28 : decode cJ6_bitCount_0f7a4 28 = .ok (.iadd, 1) := by decide +kernel
theorem dJ6_bitCount_0f7a4_29 : decode cJ6_bitCount_0f7a4 29 = .ok (.ldc_w 267, 3) := by decide +kernel
theorem dJ6_bitCount_0f7a4_32 : decode cJ6_bitCount_0f7a4 32 = .ok (.iand, 1) := by decide +kernel
theorem dJ6_bitCount_0f7a4_33 : decode cJ6_bitCount_0f7a4 33 = .ok (.istore_n 0, 1) := by decide +kernel
theorem dJ6_bitCount_0f7a4_34 : decode cJ6_bitCount_0f7a4 34 = .ok (.iload_n 0, 1) := by decide +kernel
theorem dJ6_bitCount_0f7a4_35 : decode cJ6_bitCount_0f7a4 35 = .ok (.iload_n 0, 1) := by decide +kernel
theorem dJ6_bitCount_0f7a4_36 : decode cJ6_bitCount_0f7a4 36 = .ok (.bipush 8, 2) := by decide +kernel
theorem dJ6_bitCount_0f7a4_38 : decode cJ6_bitCount_0f7a4 38 = .ok (.iushr, 1) := by decide +kernel
theorem dJ6_bitCount_0f7a4_39 : decode cJ6_bitCount_0f7a4 39 = .ok (.iadd, 1) := by decide +kernel
theorem dJ6_bitCount_0f7a4_40 : decode cJ6_bitCount_0f7a4 40 = .ok (.istore_n 0, 1) := by decide +kernel
theorem dJ6_bitCount_0f7a4_41 : decode cJ6_bitCount_0f7a4 41 = .ok (.iload_n 0, 1) := by decide +kernel
theorem dJ6_bitCount_0f7a4_42 : decode cJ6_bitCount_0f7a4 42 = .ok (.iload_n 0, 1) := by decide +kernel
theorem dJ6_bitCount_0f7a4_43 : decode cJ6_bitCount_0f7a4 43 = .ok (.bipush 16, 2) := by decide +kernel
theorem dJ6_bitCount_0f7a4_45 : decode cJ6_bitCount_0f7a4 45 = .ok (.iushr, 1) := by decide +kernel
theorem dJ6_bitCount_0f7a4_46 : decode cJ6_bitCount_0f7a4 46 = .ok (.iadd, 1) := by decide +kernel
theorem dJ6_bitCount_0f7a4_47 : decode cJ6_bitCount_0f7a4 47 = .ok (.istore_n 0, 1) := by decide +kernel
theorem dJ6_bitCount_0f7a4_48 : decode cJ6_bitCount_0f7a4 48 = .ok (.iload_n 0, 1) := by decide +kernel
theorem dJ6_bitCount_0f7a4_49 : decode cJ6_bitCount_0f7a4 49 = .ok (.bipush 63, 2) := by decide +kernel
theorem dJ6_bitCount_0f7a4_51 : decode cJ6_bitCount_0f7a4 51 = .ok (.iand, 1) := by decide +kernel
theorem dJ6_bitCount_0f7a4_52 : decode cJ6_bitCount_0f7a4 52 = .ok (.ireturn, 1) := by decide +kernel
