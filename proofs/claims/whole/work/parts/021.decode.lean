theorem dX6_gone_71 : decode cX6_gone 71 = .ok (.bipush (-9), 2) := by decide +kernel
theorem dX6_gone_73 : decode cX6_gone 73 = .ok (.if_icmp .eq 13, 3) := by decide +kernel
theorem dX6_gone_76 : decode cX6_gone 76 = .ok (.iload_n 3, 1) := by decide +kernel
theorem dX6_gone_77 : decode cX6_gone 77 = .ok (.aload_n 0, 1) := by decide +kernel
theorem dX6_gone_78 : decode cX6_gone 78 = .ok (.iload 5, 2) := by decide +kernel
theorem dX6_gone_80 : decode cX6_gone 80 = .ok (.iload_n 1, 1) := by decide +kernel
theorem dX6_gone_81 : decode cX6_gone 81 = .ok (.invokevirtual 225, 3) := by decide +kernel
theorem dX6_gone_84 : decode cX6_gone 84 = .ok (.iadd, 1) := by decide +kernel
theorem dX6_gone_85 : decode cX6_gone 85 = .ok (.istore_n 3, 1) := by decide +kernel
theorem dX6_gone_86 : decode cX6_gone 86 = .ok (.iinc 5 1, 3) := by decide +kernel
theorem dX6_gone_89 : decode cX6_gone 89 = .ok (.goto (-40), 3) := by decide +kernel
theorem dX6_gone_92 : decode cX6_gone 92 = .ok (.iload_n 3, 1) := by decide +kernel
theorem dX6_gone_93 : decode cX6_gone 93 = .ok (.iload 4, 2) := by decide +kernel
theorem dX6_gone_95 : decode cX6_gone 95 = .ok (.iload_n 2, 1) := by decide +kernel
theorem dX6_gone_96 : decode cX6_gone 96 = .ok (.invokestatic 214, 3) := by decide +kernel
theorem dX6_gone_99 : decode cX6_gone 99 = .ok (.ireturn, 1) := by decide +kernel
theorem dX6_seed_0 : decode cX6_seed 0 = .ok (.aload_n 0, 1) := by decide +kernel
theorem dX6_seed_1 : decode cX6_seed 1 = .ok (.getfield 66, 3) := by decide +kernel
theorem dX6_seed_4 : decode cX6_seed 4 = .ok (.lstore_n 3, 1) := by decide +kernel
theorem dX6_seed_5 : decode cX6_seed 5 = .ok (.aload_n 0, 1) := by decide +kernel
theorem dX6_seed_6 : decode cX6_seed 6 = .ok (.lload_n 1, 1) := by decide +kernel
theorem dX6_seed_7 : decode cX6_seed 7 = .ok (.putfield 66, 3) := by decide +kernel
theorem dX6_seed_10 : decode cX6_seed 10 = .ok (.lload_n 3, 1) := by decide +kernel
theorem dX6_seed_11 : decode cX6_seed 11 = .ok (.lreturn, 1) := by decide +kernel
theorem dX6_drawn_0 : decode cX6_drawn 0 = .ok (.iload_n 1, 1) := by decide +kernel
theorem dX6_drawn_1 : decode cX6_drawn 1 = .ok (.iconst 1, 1) := by decide +kernel
theorem dX6_drawn_2 : decode cX6_drawn 2 = .ok (.if_icmp .lt 9, 3) := by decide +kernel
theorem dX6_drawn_5 : decode cX6_drawn 5 = .ok (.iload_n 1, 1) := by decide +kernel
theorem dX6_drawn_6 : decode cX6_drawn 6 = .ok (.bipush 20, 2) := by decide +kernel
theorem dX6_drawn_8 : decode cX6_drawn 8 = .ok (.if_icmp .le 6, 3) := by decide +kernel
theorem dX6_drawn_11 : decode cX6_drawn 11 = .ok (.bipush (-2), 2) := by decide +kernel
theorem dX6_drawn_13 : decode cX6_drawn 13 = .ok (.ireturn, 1) := by decide +kernel
theorem dX6_drawn_14 : decode cX6_drawn 14 = .ok (.aload_n 0, 1) := by decide +kernel
theorem dX6_drawn_15 : decode cX6_drawn 15 = .ok (.getfield 23, 3) := by decide +kernel
theorem dX6_drawn_18 : decode cX6_drawn 18 = .ok (.aload_n 0, 1) := by decide +kernel
theorem dX6_drawn_19 : decode cX6_drawn 19 = .ok (.getfield 19, 3) := by decide +kernel
theorem dX6_drawn_22 : decode cX6_drawn 22 = .ok (.invokevirtual 84, 3) := by decide +kernel
theorem dX6_drawn_25 : decode cX6_drawn 25 = .ok (.iconst 0, 1) := by decide +kernel
theorem dX6_drawn_26 : decode cX6_drawn 26 = .ok (.istore_n 2, 1) := by decide +kernel
theorem dX6_drawn_27 : decode cX6_drawn 27 = .ok (.iconst 0, 1) := by decide +kernel
theorem dX6_drawn_28 : decode cX6_drawn 28 = .ok (.istore_n 3, 1) := by decide +kernel
theorem dX6_drawn_29 : decode cX6_drawn 29 = .ok (.iload_n 3, 1) := by decide +kernel
theorem dX6_drawn_30 : decode cX6_drawn 30 = .ok (.iload_n 1, 1) := by decide +kernel
theorem dX6_drawn_31 : decode cX6_drawn 31 = .ok (.if_icmp .ge 101, 3) := by decide +kernel
theorem dX6_drawn_34 : decode cX6_drawn 34 = .ok (.iconst 0, 1) := by decide +kernel
theorem dX6_drawn_35 : decode cX6_drawn 35 = .ok (.istore 4, 2) := by decide +kernel
theorem dX6_drawn_37 : decode cX6_drawn 37 = .ok (.iload 4, 2) := by decide +kernel
theorem dX6_drawn_39 : decode cX6_drawn 39 = .ok (.aload_n 0, 1) := by decide +kernel
theorem dX6_drawn_40 : decode cX6_drawn 40 = .ok (.getfield 23, 3) := by decide +kernel
theorem dX6_drawn_43 : decode cX6_drawn 43 = .ok (.getfield 91, 3) := by decide +kernel
theorem dX6_drawn_46 : decode cX6_drawn 46 = .ok (.if_icmp .ge 47, 3) := by decide +kernel
theorem dX6_drawn_49 : decode cX6_drawn 49 = .ok (.aload_n 0, 1) := by decide +kernel
theorem dX6_drawn_50 : decode cX6_drawn 50 = .ok (.aload_n 0, 1) := by decide +kernel
theorem dX6_drawn_51 : decode cX6_drawn 51 = .ok (.getfield 66, 3) := by decide +kernel
theorem dX6_drawn_54 : decode cX6_drawn 54 = .ok (.ldc2_w 229, 3) := by decide +kernel
theorem dX6_drawn_57 : decode cX6_drawn 57 = .ok (.lmul, 1) := by decide +kernel
theorem dX6_drawn_58 : decode cX6_drawn 58 = .ok (.ldc2_w 231, 3) := by decide +kernel
theorem dX6_drawn_61 : decode cX6_drawn 61 = .ok (.ladd, 1) := by decide +kernel
theorem dX6_drawn_62 : decode cX6_drawn 62 = .ok (.putfield 66, 3) := by decide +kernel
theorem dX6_drawn_65 : decode cX6_drawn 65 = .ok (.aload_n 0, 1) := by decide +kernel
theorem dX6_drawn_66 : decode cX6_drawn 66 = .ok (.getfield 23, 3) := by decide +kernel
theorem dX6_drawn_69 : decode cX6_drawn 69 = .ok (.getfield 136, 3) := by decide +kernel
theorem dX6_drawn_72 : decode cX6_drawn 72 = .ok (.iload 4, 2) := by decide +kernel
theorem dX6_drawn_74 : decode cX6_drawn 74 = .ok (.aload_n 0, 1) := by decide +kernel
theorem dX6_drawn_75 : decode cX6_drawn 75 = .ok (.getfield 66, 3) := by decide +kernel
theorem dX6_drawn_78 : decode cX6_drawn 78 = .ok (.bipush 33, 2) := by decide +kernel
theorem dX6_drawn_80 : decode cX6_drawn 80 = .ok (.lushr, 1) := by decide +kernel
theorem dX6_drawn_81 : decode cX6_drawn 81 = .ok (.ldc2_w 233, 3) := by decide +kernel
theorem dX6_drawn_84 : decode cX6_drawn 84 = .ok (.lrem, 1) := by decide +kernel
theorem dX6_drawn_85 : decode cX6_drawn 85 = .ok (.l2i, 1) := by decide +kernel
theorem dX6_drawn_86 : decode cX6_drawn 86 = .ok (.iastore, 1) := by decide +kernel
theorem dX6_drawn_87 : decode cX6_drawn 87 = .ok (.iinc 4 1, 3) := by decide +kernel
theorem dX6_drawn_90 : decode cX6_drawn 90 = .ok (.goto (-53), 3) := by decide +kernel
theorem dX6_drawn_93 : decode cX6_drawn 93 = .ok (.aload_n 0, 1) := by decide +kernel
theorem dX6_drawn_94 : decode cX6_drawn 94 = .ok (.aload_n 0, 1) := by decide +kernel
theorem dX6_drawn_95 : decode cX6_drawn 95 = .ok (.getfield 23, 3) := by decide +kernel
theorem dX6_drawn_98 : decode cX6_drawn 98 = .ok (.aload_n 0, 1) := by decide +kernel
theorem dX6_drawn_99 : decode cX6_drawn 99 = .ok (.getfield 23, 3) := by decide +kernel
theorem dX6_drawn_102 : decode cX6_drawn 102 = .ok (.invokevirtual 97, 3) := by decide +kernel
theorem dX6_drawn_105 : decode cX6_drawn 105 = .ok (.invokevirtual 101, 3) := by decide +kernel
theorem dX6_drawn_108 : decode cX6_drawn 108 = .ok (.istore 4, 2) := by decide +kernel
theorem dX6_drawn_110 : decode cX6_drawn 110 = .ok (.iload_n 2, 1) := by decide +kernel
theorem dX6_drawn_111 : decode cX6_drawn 111 = .ok (.iload 4, 2) := by decide +kernel
theorem dX6_drawn_113 : decode cX6_drawn 113 = .ok (.bipush (-9), 2) := by decide +kernel
theorem dX6_drawn_115 : decode cX6_drawn 115 = .ok (.if_icmp .ne 7, 3) := by decide +kernel
theorem dX6_drawn_118 : decode cX6_drawn 118 = .ok (.iconst 0, 1) := by decide +kernel
theorem dX6_drawn_119 : decode cX6_drawn 119 = .ok (.goto 5, 3) := by decide +kernel
theorem dX6_drawn_122 : decode cX6_drawn 122 = .ok (.iload 4, 2) := by decide +kernel
theorem dX6_drawn_124 : decode cX6_drawn 124 = .ok (.iadd, 1) := by decide +kernel
theorem dX6_drawn_125 : decode cX6_drawn 125 = .ok (.istore_n 2, 1) := by decide +kernel
theorem dX6_drawn_126 : decode cX6_drawn 126 = .ok (.iinc 3 1, 3) := by decide +kernel
theorem dX6_drawn_129 : decode cX6_drawn 129 = .ok (.goto (-100), 3) := by decide +kernel
theorem dX6_drawn_132 : decode cX6_drawn 132 = .ok (.iload_n 2, 1) := by decide +kernel
theorem dX6_drawn_133 : decode cX6_drawn 133 = .ok (.ireturn, 1) := by decide +kernel
theorem dX6_keep_0 : decode cX6_keep 0 = .ok (.aload_n 0, 1) := by decide +kernel
theorem dX6_keep_1 : decode cX6_keep 1 = .ok (.iload_n 1, 1) := by decide +kernel
theorem dX6_keep_2 : decode cX6_keep 2 = .ok (.invokevirtual 235, 3) := by decide +kernel
theorem dX6_keep_5 : decode cX6_keep 5 = .ok (.astore_n 2, 1) := by decide +kernel
theorem dX6_keep_6 : decode cX6_keep 6 = .ok (.aload_n 2, 1) := by decide +kernel
theorem dX6_keep_7 : decode cX6_keep 7 = .ok (.ifnonnull 5, 3) := by decide +kernel
theorem dX6_keep_10 : decode cX6_keep 10 = .ok (.iconst (-1), 1) := by decide +kernel
theorem dX6_keep_11 : decode cX6_keep 11 = .ok (.ireturn, 1) := by decide +kernel
theorem dX6_keep_12 : decode cX6_keep 12 = .ok (.aload_n 2, 1) := by decide +kernel
theorem dX6_keep_13 : decode cX6_keep 13 = .ok (.aload_n 0, 1) := by decide +kernel
theorem dX6_keep_14 : decode cX6_keep 14 = .ok (.getfield 19, 3) := by decide +kernel
theorem dX6_keep_17 : decode cX6_keep 17 = .ok (.invokevirtual 84, 3) := by decide +kernel
theorem dX6_keep_20 : decode cX6_keep 20 = .ok (.aload_n 0, 1) := by decide +kernel
theorem dX6_keep_21 : decode cX6_keep 21 = .ok (.dup, 1) := by decide +kernel
theorem dX6_keep_22 : decode cX6_keep 22 = .ok (.getfield 62, 3) := by decide +kernel
theorem dX6_keep_25 : decode cX6_keep 25 = .ok (.iconst 1, 1) := by decide +kernel
theorem dX6_keep_26 : decode cX6_keep 26 = .ok (.iload_n 1, 1) := by decide +kernel
theorem dX6_keep_27 : decode cX6_keep 27 = .ok (.ishl, 1) := by decide +kernel
theorem dX6_keep_28 : decode cX6_keep 28 = .ok (.ior, 1) := by decide +kernel
theorem dX6_keep_29 : decode cX6_keep 29 = .ok (.putfield 62, 3) := by decide +kernel
theorem dX6_keep_32 : decode cX6_keep 32 = .ok (.aload_n 0, 1) := by decide +kernel
theorem dX6_keep_33 : decode cX6_keep 33 = .ok (.getfield 19, 3) := by decide +kernel
theorem dX6_keep_36 : decode cX6_keep 36 = .ok (.getfield 91, 3) := by decide +kernel
theorem dX6_keep_39 : decode cX6_keep 39 = .ok (.ireturn, 1) := by decide +kernel
theorem dX6_again_0 : decode cX6_again 0 = .ok (.aload_n 0, 1) := by decide +kernel
theorem dX6_again_1 : decode cX6_again 1 = .ok (.iload_n 1, 1) := by decide +kernel
theorem dX6_again_2 : decode cX6_again 2 = .ok (.invokevirtual 235, 3) := by decide +kernel
theorem dX6_again_5 : decode cX6_again 5 = .ok (.astore_n 2, 1) := by decide +kernel
theorem dX6_again_6 : decode cX6_again 6 = .ok (.aload_n 2, 1) := by decide +kernel
theorem dX6_again_7 : decode cX6_again 7 = .ok (.ifnonnull 5, 3) := by decide +kernel
theorem dX6_again_10 : decode cX6_again 10 = .ok (.iconst (-1), 1) := by decide +kernel
theorem dX6_again_11 : decode cX6_again 11 = .ok (.ireturn, 1) := by decide +kernel
theorem dX6_again_12 : decode cX6_again 12 = .ok (.aload_n 0, 1) := by decide +kernel
theorem dX6_again_13 : decode cX6_again 13 = .ok (.getfield 62, 3) := by decide +kernel
theorem dX6_again_16 : decode cX6_again 16 = .ok (.iload_n 1, 1) := by decide +kernel
theorem dX6_again_17 : decode cX6_again 17 = .ok (.ishr, 1) := by decide +kernel
theorem dX6_again_18 : decode cX6_again 18 = .ok (.iconst 1, 1) := by decide +kernel
theorem dX6_again_19 : decode cX6_again 19 = .ok (.iand, 1) := by decide +kernel
theorem dX6_again_20 : decode cX6_again 20 = .ok (.ifCond .ne 6, 3) := by decide +kernel
theorem dX6_again_23 : decode cX6_again 23 = .ok (.bipush (-3), 2) := by decide +kernel
theorem dX6_again_25 : decode cX6_again 25 = .ok (.ireturn, 1) := by decide +kernel
theorem dX6_again_26 : decode cX6_again 26 = .ok (.aload_n 0, 1) := by decide +kernel
theorem dX6_again_27 : decode cX6_again 27 = .ok (.getfield 19, 3) := by decide +kernel
theorem dX6_again_30 : decode cX6_again 30 = .ok (.aload_n 2, 1) := by decide +kernel
theorem dX6_again_31 : decode cX6_again 31 = .ok (.invokevirtual 84, 3) := by decide +kernel
theorem dX6_again_34 : decode cX6_again 34 = .ok (.aload_n 0, 1) := by decide +kernel
theorem dX6_again_35 : decode cX6_again 35 = .ok (.getfield 43, 3) := by decide +kernel
theorem dX6_again_38 : decode cX6_again 38 = .ok (.iconst 0, 1) := by decide +kernel
theorem dX6_again_39 : decode cX6_again 39 = .ok (.putfield 88, 3) := by decide +kernel
theorem dX6_again_42 : decode cX6_again 42 = .ok (.aload_n 0, 1) := by decide +kernel
theorem dX6_again_43 : decode cX6_again 43 = .ok (.getfield 19, 3) := by decide +kernel
theorem dX6_again_46 : decode cX6_again 46 = .ok (.getfield 91, 3) := by decide +kernel
theorem dX6_again_49 : decode cX6_again 49 = .ok (.ireturn, 1) := by decide +kernel
theorem dX6_roomOf_0 : decode cX6_roomOf 0 = .ok (.iload_n 1, 1) := by decide +kernel
theorem dX6_roomOf_1 : decode cX6_roomOf 1 = .ok (.ifCond .lt 17, 3) := by decide +kernel
theorem dX6_roomOf_4 : decode cX6_roomOf 4 = .ok (.iload_n 1, 1) := by decide +kernel
theorem dX6_roomOf_5 : decode cX6_roomOf 5 = .ok (.iconst 2, 1) := by decide +kernel
theorem dX6_roomOf_6 : decode cX6_roomOf 6 = .ok (.if_icmp .ge 12, 3) := by decide +kernel
theorem dX6_roomOf_9 : decode cX6_roomOf 9 = .ok (.aload_n 0, 1) := by decide +kernel
theorem dX6_roomOf_10 : decode cX6_roomOf 10 = .ok (.getfield 54, 3) := by decide +kernel
theorem dX6_roomOf_13 : decode cX6_roomOf 13 = .ok (.iload_n 1, 1) := by decide +kernel
theorem dX6_roomOf_14 : decode cX6_roomOf 14 = .ok (.aaload, 1) := by decide +kernel
theorem dX6_roomOf_15 : decode cX6_roomOf 15 = .ok (.goto 4, 3) := by decide +kernel
theorem dX6_roomOf_18 : decode cX6_roomOf 18 = .ok (.aconst_null, 1) := by decide +kernel
theorem dX6_roomOf_19 : decode cX6_roomOf 19 = .ok (.areturn, 1) := by decide +kernel
theorem dX6_cheapest_0 : decode cX6_cheapest 0 = .ok (.aload_n 0, 1) := by decide +kernel
theorem dX6_cheapest_1 : decode cX6_cheapest 1 = .ok (.getfield 29, 3) := by decide +kernel
theorem dX6_cheapest_4 : decode cX6_cheapest 4 = .ok (.aload_n 1, 1) := by decide +kernel
theorem dX6_cheapest_5 : decode cX6_cheapest 5 = .ok (.iload_n 2, 1) := by decide +kernel
theorem dX6_cheapest_6 : decode cX6_cheapest 6 = .ok (.invokevirtual 176, 3) := by decide +kernel
theorem dX6_cheapest_9 : decode cX6_cheapest 9 = .ok (.aload_n 0, 1) := by decide +kernel
theorem dX6_cheapest_10 : decode cX6_cheapest 10 = .ok (.getfield 29, 3) := by decide +kernel
theorem dX6_cheapest_13 : decode cX6_cheapest 13 = .ok (.bipush (-9), 2) := by decide +kernel
theorem dX6_cheapest_15 : decode cX6_cheapest 15 = .ok (.putfield 239, 3) := by decide +kernel
theorem dX6_cheapest_18 : decode cX6_cheapest 18 = .ok (.aload_n 1, 1) := by decide +kernel
theorem dX6_cheapest_19 : decode cX6_cheapest 19 = .ok (.aload_n 0, 1) := by decide +kernel
theorem dX6_cheapest_20 : decode cX6_cheapest 20 = .ok (.getfield 29, 3) := by decide +kernel
theorem dX6_cheapest_23 : decode cX6_cheapest 23 = .ok (.iconst 0, 1) := by decide +kernel
theorem dX6_cheapest_24 : decode cX6_cheapest 24 = .ok (.iconst 0, 1) := by decide +kernel
theorem dX6_cheapest_25 : decode cX6_cheapest 25 = .ok (.iconst 0, 1) := by decide +kernel
theorem dX6_cheapest_26 : decode cX6_cheapest 26 = .ok (.invokestatic 242, 3) := by decide +kernel
theorem dX6_cheapest_29 : decode cX6_cheapest 29 = .ok (.aload_n 0, 1) := by decide +kernel
theorem dX6_cheapest_30 : decode cX6_cheapest 30 = .ok (.getfield 29, 3) := by decide +kernel
theorem dX6_cheapest_33 : decode cX6_cheapest 33 = .ok (.getfield 239, 3) := by decide +kernel
theorem dX6_cheapest_36 : decode cX6_cheapest 36 = .ok (.ireturn, 1) := by decide +kernel
theorem dX6_serveFrom_0 : decode cX6_serveFrom 0 = .ok (.aload_n 1, 1) := by decide +kernel
theorem dX6_serveFrom_1 : decode cX6_serveFrom 1 = .ok (.getfield 239, 3) := by decide +kernel
theorem dX6_serveFrom_4 : decode cX6_serveFrom 4 = .ok (.bipush (-9), 2) := by decide +kernel
theorem dX6_serveFrom_6 : decode cX6_serveFrom 6 = .ok (.if_icmp .eq 13, 3) := by decide +kernel
theorem dX6_serveFrom_9 : decode cX6_serveFrom 9 = .ok (.iload 4, 2) := by decide +kernel
theorem dX6_serveFrom_11 : decode cX6_serveFrom 11 = .ok (.aload_n 1, 1) := by decide +kernel
theorem dX6_serveFrom_12 : decode cX6_serveFrom 12 = .ok (.getfield 239, 3) := by decide +kernel
theorem dX6_serveFrom_15 : decode cX6_serveFrom 15 = .ok (.if_icmp .lt 4, 3) := by decide +kernel
theorem dX6_serveFrom_18 : decode cX6_serveFrom 18 = .ok (.return_, 1) := by decide +kernel
theorem dX6_serveFrom_19 : decode cX6_serveFrom 19 = .ok (.iload_n 2, 1) := by decide +kernel
theorem dX6_serveFrom_20 : decode cX6_serveFrom 20 = .ok (.aload_n 0, 1) := by decide +kernel
theorem dX6_serveFrom_21 : decode cX6_serveFrom 21 = .ok (.getfield 94, 3) := by decide +kernel
theorem dX6_serveFrom_24 : decode cX6_serveFrom 24 = .ok (.if_icmp .lt 14, 3) := by decide +kernel
theorem dX6_serveFrom_27 : decode cX6_serveFrom 27 = .ok (.aload_n 1, 1) := by decide +kernel
theorem dX6_serveFrom_28 : decode cX6_serveFrom 28 = .ok (.aload_n 0, 1) := by decide +kernel
theorem dX6_serveFrom_29 : decode cX6_serveFrom 29 = .ok (.getfield 94, 3) := by decide +kernel
theorem dX6_serveFrom_32 : decode cX6_serveFrom 32 = .ok (.iload 4, 2) := by decide +kernel
theorem dX6_serveFrom_34 : decode cX6_serveFrom 34 = .ok (.invokevirtual 246, 3) := by decide +kernel
theorem dX6_serveFrom_37 : decode cX6_serveFrom 37 = .ok (.return_, 1) := by decide +kernel
theorem dX6_serveFrom_38 : decode cX6_serveFrom 38 = .ok (.aload_n 0, 1) := by decide +kernel
theorem dX6_serveFrom_39 : decode cX6_serveFrom 39 = .ok (.getfield 121, 3) := by decide +kernel
theorem dX6_serveFrom_42 : decode cX6_serveFrom 42 = .ok (.iload_n 2, 1) := by decide +kernel
theorem dX6_serveFrom_43 : decode cX6_serveFrom 43 = .ok (.iaload, 1) := by decide +kernel
theorem dX6_serveFrom_44 : decode cX6_serveFrom 44 = .ok (.istore 5, 2) := by decide +kernel
theorem dX6_serveFrom_46 : decode cX6_serveFrom 46 = .ok (.iconst 0, 1) := by decide +kernel
theorem dX6_serveFrom_47 : decode cX6_serveFrom 47 = .ok (.istore 6, 2) := by decide +kernel
theorem dX6_serveFrom_49 : decode cX6_serveFrom 49 = .ok (.iload 6, 2) := by decide +kernel
theorem dX6_serveFrom_51 : decode cX6_serveFrom 51 = .ok (.aload_n 0, 1) := by decide +kernel
theorem dX6_serveFrom_52 : decode cX6_serveFrom 52 = .ok (.getfield 91, 3) := by decide +kernel
theorem dX6_serveFrom_55 : decode cX6_serveFrom 55 = .ok (.if_icmp .ge 74, 3) := by decide +kernel
theorem dX6_serveFrom_58 : decode cX6_serveFrom 58 = .ok (.aload_n 1, 1) := by decide +kernel
theorem dX6_serveFrom_59 : decode cX6_serveFrom 59 = .ok (.aload_n 0, 1) := by decide +kernel
theorem dX6_serveFrom_60 : decode cX6_serveFrom 60 = .ok (.iload 6, 2) := by decide +kernel
theorem dX6_serveFrom_62 : decode cX6_serveFrom 62 = .ok (.iload_n 2, 1) := by decide +kernel
theorem dX6_serveFrom_63 : decode cX6_serveFrom 63 = .ok (.invokevirtual 183, 3) := by decide +kernel
theorem dX6_serveFrom_66 : decode cX6_serveFrom 66 = .ok (.ifCond .eq 57, 3) := by decide +kernel
theorem dX6_serveFrom_69 : decode cX6_serveFrom 69 = .ok (.aload_n 1, 1) := by decide +kernel
theorem dX6_serveFrom_70 : decode cX6_serveFrom 70 = .ok (.getfield 187, 3) := by decide +kernel
theorem dX6_serveFrom_73 : decode cX6_serveFrom 73 = .ok (.iload 6, 2) := by decide +kernel
theorem dX6_serveFrom_75 : decode cX6_serveFrom 75 = .ok (.dup2, 1) := by decide +kernel
theorem dX6_serveFrom_76 : decode cX6_serveFrom 76 = .ok (.iaload, 1) := by decide +kernel
theorem dX6_serveFrom_77 : decode cX6_serveFrom 77 = .ok (.iload 5, 2) := by decide +kernel
theorem dX6_serveFrom_79 : decode cX6_serveFrom 79 = .ok (.isub, 1) := by decide +kernel
theorem dX6_serveFrom_80 : decode cX6_serveFrom 80 = .ok (.iastore, 1) := by decide +kernel
theorem dX6_serveFrom_81 : decode cX6_serveFrom 81 = .ok (.aload_n 1, 1) := by decide +kernel
theorem dX6_serveFrom_82 : decode cX6_serveFrom 82 = .ok (.getfield 250, 3) := by decide +kernel
theorem dX6_serveFrom_85 : decode cX6_serveFrom 85 = .ok (.iload_n 2, 1) := by decide +kernel
theorem dX6_serveFrom_86 : decode cX6_serveFrom 86 = .ok (.iload 6, 2) := by decide +kernel
theorem dX6_serveFrom_88 : decode cX6_serveFrom 88 = .ok (.iastore, 1) := by decide +kernel
theorem dX6_serveFrom_89 : decode cX6_serveFrom 89 = .ok (.aload_n 0, 1) := by decide +kernel
theorem dX6_serveFrom_90 : decode cX6_serveFrom 90 = .ok (.aload_n 1, 1) := by decide +kernel
theorem dX6_serveFrom_91 : decode cX6_serveFrom 91 = .ok (.iload_n 2, 1) := by decide +kernel
theorem dX6_serveFrom_92 : decode cX6_serveFrom 92 = .ok (.iconst 1, 1) := by decide +kernel
theorem dX6_serveFrom_93 : decode cX6_serveFrom 93 = .ok (.iadd, 1) := by decide +kernel
theorem dX6_serveFrom_94 : decode cX6_serveFrom 94 = .ok (.iload_n 3, 1) := by decide +kernel
theorem dX6_serveFrom_95 : decode cX6_serveFrom 95 = .ok (.iload 4, 2) := by decide +kernel
theorem dX6_serveFrom_97 : decode cX6_serveFrom 97 = .ok (.iload 5, 2) := by decide +kernel
theorem dX6_serveFrom_99 : decode cX6_serveFrom 99 = .ok (.aload_n 0, 1) := by decide +kernel
theorem dX6_serveFrom_100 : decode cX6_serveFrom 100 = .ok (.getfield 136, 3) := by decide +kernel
theorem dX6_serveFrom_103 : decode cX6_serveFrom 103 = .ok (.iload 6, 2) := by decide +kernel
theorem dX6_serveFrom_105 : decode cX6_serveFrom 105 = .ok (.iaload, 1) := by decide +kernel
theorem dX6_serveFrom_106 : decode cX6_serveFrom 106 = .ok (.imul, 1) := by decide +kernel
theorem dX6_serveFrom_107 : decode cX6_serveFrom 107 = .ok (.iadd, 1) := by decide +kernel
theorem dX6_serveFrom_108 : decode cX6_serveFrom 108 = .ok (.invokestatic 242, 3) := by decide +kernel
theorem dX6_serveFrom_111 : decode cX6_serveFrom 111 = .ok (.aload_n 1, 1) := by decide +kernel
theorem dX6_serveFrom_112 : decode cX6_serveFrom 112 = .ok (.getfield 187, 3) := by decide +kernel
theorem dX6_serveFrom_115 : decode cX6_serveFrom 115 = .ok (.iload 6, 2) := by decide +kernel
theorem dX6_serveFrom_117 : decode cX6_serveFrom 117 = .ok (.dup2, 1) := by decide +kernel
theorem dX6_serveFrom_118 : decode cX6_serveFrom 118 = .ok (.iaload, 1) := by decide +kernel
theorem dX6_serveFrom_119 : decode cX6_serveFrom 119 = .ok (.iload 5, 2) := by decide +kernel
theorem dX6_serveFrom_121 : decode cX6_serveFrom 121 = .ok (.iadd, 1) := by decide +kernel
theorem dX6_serveFrom_122 : decode cX6_serveFrom 122 = .ok (.iastore, 1) := by decide +kernel
theorem dX6_serveFrom_123 : decode cX6_serveFrom 123 = .ok (.iinc 6 1, 3) := by decide +kernel
theorem dX6_serveFrom_126 : decode cX6_serveFrom 126 = .ok (.goto (-77), 3) := by decide +kernel
theorem dX6_serveFrom_129 : decode cX6_serveFrom 129 = .ok (.iload_n 3, 1) := by decide +kernel
theorem dX6_serveFrom_130 : decode cX6_serveFrom 130 = .ok (.aload_n 0, 1) := by decide +kernel
theorem dX6_serveFrom_131 : decode cX6_serveFrom 131 = .ok (.getfield 81, 3) := by decide +kernel
theorem dX6_serveFrom_134 : decode cX6_serveFrom 134 = .ok (.if_icmp .ge 32, 3) := by decide +kernel
theorem dX6_serveFrom_137 : decode cX6_serveFrom 137 = .ok (.aload_n 0, 1) := by decide +kernel
theorem dX6_serveFrom_138 : decode cX6_serveFrom 138 = .ok (.iload_n 2, 1) := by decide +kernel
theorem dX6_serveFrom_139 : decode cX6_serveFrom 139 = .ok (.invokevirtual 180, 3) := by decide +kernel
theorem dX6_serveFrom_142 : decode cX6_serveFrom 142 = .ok (.ifCond .eq 24, 3) := by decide +kernel
theorem dX6_serveFrom_145 : decode cX6_serveFrom 145 = .ok (.aload_n 1, 1) := by decide +kernel
theorem dX6_serveFrom_146 : decode cX6_serveFrom 146 = .ok (.getfield 250, 3) := by decide +kernel
theorem dX6_serveFrom_149 : decode cX6_serveFrom 149 = .ok (.iload_n 2, 1) := by decide +kernel
theorem dX6_serveFrom_150 : decode cX6_serveFrom 150 = .ok (.bipush 9, 2) := by decide +kernel
theorem dX6_serveFrom_152 : decode cX6_serveFrom 152 = .ok (.iastore, 1) := by decide +kernel
theorem dX6_serveFrom_153 : decode cX6_serveFrom 153 = .ok (.aload_n 0, 1) := by decide +kernel
theorem dX6_serveFrom_154 : decode cX6_serveFrom 154 = .ok (.aload_n 1, 1) := by decide +kernel
theorem dX6_serveFrom_155 : decode cX6_serveFrom 155 = .ok (.iload_n 2, 1) := by decide +kernel
theorem dX6_serveFrom_156 : decode cX6_serveFrom 156 = .ok (.iconst 1, 1) := by decide +kernel
theorem dX6_serveFrom_157 : decode cX6_serveFrom 157 = .ok (.iadd, 1) := by decide +kernel
theorem dX6_serveFrom_158 : decode cX6_serveFrom 158 = .ok (.iload_n 3, 1) := by decide +kernel
theorem dX6_serveFrom_159 : decode cX6_serveFrom 159 = .ok (.iconst 1, 1) := by decide +kernel
theorem dX6_serveFrom_160 : decode cX6_serveFrom 160 = .ok (.iadd, 1) := by decide +kernel
theorem dX6_serveFrom_161 : decode cX6_serveFrom 161 = .ok (.iload 4, 2) := by decide +kernel
theorem dX6_serveFrom_163 : decode cX6_serveFrom 163 = .ok (.invokestatic 242, 3) := by decide +kernel
theorem dX6_serveFrom_166 : decode cX6_serveFrom 166 = .ok (.return_, 1) := by decide +kernel
theorem dX6_mostServed_0 : decode cX6_mostServed 0 = .ok (.aload_n 0, 1) := by decide +kernel
theorem dX6_mostServed_1 : decode cX6_mostServed 1 = .ok (.getfield 29, 3) := by decide +kernel
theorem dX6_mostServed_4 : decode cX6_mostServed 4 = .ok (.aload_n 1, 1) := by decide +kernel
theorem dX6_mostServed_5 : decode cX6_mostServed 5 = .ok (.iload_n 2, 1) := by decide +kernel
theorem dX6_mostServed_6 : decode cX6_mostServed 6 = .ok (.invokevirtual 176, 3) := by decide +kernel
theorem dX6_mostServed_9 : decode cX6_mostServed 9 = .ok (.aload_n 0, 1) := by decide +kernel
theorem dX6_mostServed_10 : decode cX6_mostServed 10 = .ok (.getfield 29, 3) := by decide +kernel
theorem dX6_mostServed_13 : decode cX6_mostServed 13 = .ok (.iconst 0, 1) := by decide +kernel
theorem dX6_mostServed_14 : decode cX6_mostServed 14 = .ok (.putfield 239, 3) := by decide +kernel
theorem dX6_mostServed_17 : decode cX6_mostServed 17 = .ok (.aload_n 1, 1) := by decide +kernel
theorem dX6_mostServed_18 : decode cX6_mostServed 18 = .ok (.aload_n 0, 1) := by decide +kernel
theorem dX6_mostServed_19 : decode cX6_mostServed 19 = .ok (.getfield 29, 3) := by decide +kernel
theorem dX6_mostServed_22 : decode cX6_mostServed 22 = .ok (.iconst 0, 1) := by decide +kernel
theorem dX6_mostServed_23 : decode cX6_mostServed 23 = .ok (.iconst 0, 1) := by decide +kernel
theorem dX6_mostServed_24 : decode cX6_mostServed 24 = .ok (.iconst 0, 1) := by decide +kernel
theorem dX6_mostServed_25 : decode cX6_mostServed 25 = .ok (.invokestatic 253, 3) := by decide +kernel
theorem dX6_mostServed_28 : decode cX6_mostServed 28 = .ok (.aload_n 0, 1) := by decide +kernel
theorem dX6_mostServed_29 : decode cX6_mostServed 29 = .ok (.getfield 29, 3) := by decide +kernel
theorem dX6_mostServed_32 : decode cX6_mostServed 32 = .ok (.getfield 239, 3) := by decide +kernel
theorem dX6_mostServed_35 : decode cX6_mostServed 35 = .ok (.ireturn, 1) := by decide +kernel
theorem dX6_countFrom_0 : decode cX6_countFrom 0 = .ok (.iload 4, 2) := by decide +kernel
theorem dX6_countFrom_2 : decode cX6_countFrom 2 = .ok (.aload_n 0, 1) := by decide +kernel
theorem dX6_countFrom_3 : decode cX6_countFrom 3 = .ok (.getfield 94, 3) := by decide +kernel
theorem dX6_countFrom_6 : decode cX6_countFrom 6 = .ok (.iadd, 1) := by decide +kernel
theorem dX6_countFrom_7 : decode cX6_countFrom 7 = .ok (.iload_n 2, 1) := by decide +kernel
theorem dX6_countFrom_8 : decode cX6_countFrom 8 = .ok (.isub, 1) := by decide +kernel
theorem dX6_countFrom_9 : decode cX6_countFrom 9 = .ok (.aload_n 1, 1) := by decide +kernel
theorem dX6_countFrom_10 : decode cX6_countFrom 10 = .ok (.getfield 239, 3) := by decide +kernel
theorem dX6_countFrom_13 : decode cX6_countFrom 13 = .ok (.if_icmp .gt 4, 3) := by decide +kernel
theorem dX6_countFrom_16 : decode cX6_countFrom 16 = .ok (.return_, 1) := by decide +kernel
theorem dX6_countFrom_17 : decode cX6_countFrom 17 = .ok (.iload_n 2, 1) := by decide +kernel
theorem dX6_countFrom_18 : decode cX6_countFrom 18 = .ok (.aload_n 0, 1) := by decide +kernel
theorem dX6_countFrom_19 : decode cX6_countFrom 19 = .ok (.getfield 94, 3) := by decide +kernel
theorem dX6_countFrom_22 : decode cX6_countFrom 22 = .ok (.if_icmp .lt 10, 3) := by decide +kernel
theorem dX6_countFrom_25 : decode cX6_countFrom 25 = .ok (.aload_n 1, 1) := by decide +kernel
theorem dX6_countFrom_26 : decode cX6_countFrom 26 = .ok (.iload 4, 2) := by decide +kernel
theorem dX6_countFrom_28 : decode cX6_countFrom 28 = .ok (.putfield 239, 3) := by decide +kernel
theorem dX6_countFrom_31 : decode cX6_countFrom 31 = .ok (.return_, 1) := by decide +kernel
theorem dX6_countFrom_32 : decode cX6_countFrom 32 = .ok (.aload_n 0, 1) := by decide +kernel
theorem dX6_countFrom_33 : decode cX6_countFrom 33 = .ok (.getfield 121, 3) := by decide +kernel
theorem dX6_countFrom_36 : decode cX6_countFrom 36 = .ok (.iload_n 2, 1) := by decide +kernel
theorem dX6_countFrom_37 : decode cX6_countFrom 37 = .ok (.iaload, 1) := by decide +kernel
theorem dX6_countFrom_38 : decode cX6_countFrom 38 = .ok (.istore 5, 2) := by decide +kernel
theorem dX6_countFrom_40 : decode cX6_countFrom 40 = .ok (.iconst 0, 1) := by decide +kernel
theorem dX6_countFrom_41 : decode cX6_countFrom 41 = .ok (.istore 6, 2) := by decide +kernel
theorem dX6_countFrom_43 : decode cX6_countFrom 43 = .ok (.iload 6, 2) := by decide +kernel
theorem dX6_countFrom_45 : decode cX6_countFrom 45 = .ok (.aload_n 0, 1) := by decide +kernel
theorem dX6_countFrom_46 : decode cX6_countFrom 46 = .ok (.getfield 91, 3) := by decide +kernel
theorem dX6_countFrom_49 : decode cX6_countFrom 49 = .ok (.if_icmp .ge 65, 3) := by decide +kernel
theorem dX6_countFrom_52 : decode cX6_countFrom 52 = .ok (.aload_n 1, 1) := by decide +kernel
theorem dX6_countFrom_53 : decode cX6_countFrom 53 = .ok (.aload_n 0, 1) := by decide +kernel
theorem dX6_countFrom_54 : decode cX6_countFrom 54 = .ok (.iload 6, 2) := by decide +kernel
theorem dX6_countFrom_56 : decode cX6_countFrom 56 = .ok (.iload_n 2, 1) := by decide +kernel
theorem dX6_countFrom_57 : decode cX6_countFrom 57 = .ok (.invokevirtual 183, 3) := by decide +kernel
theorem dX6_countFrom_60 : decode cX6_countFrom 60 = .ok (.ifCond .eq 48, 3) := by decide +kernel
theorem dX6_countFrom_63 : decode cX6_countFrom 63 = .ok (.aload_n 1, 1) := by decide +kernel
theorem dX6_countFrom_64 : decode cX6_countFrom 64 = .ok (.getfield 187, 3) := by decide +kernel
theorem dX6_countFrom_67 : decode cX6_countFrom 67 = .ok (.iload 6, 2) := by decide +kernel
theorem dX6_countFrom_69 : decode cX6_countFrom 69 = .ok (.dup2, 1) := by decide +kernel
theorem dX6_countFrom_70 : decode cX6_countFrom 70 = .ok (.iaload, 1) := by decide +kernel
theorem dX6_countFrom_71 : decode cX6_countFrom 71 = .ok (.iload 5, 2) := by decide +kernel
theorem dX6_countFrom_73 : decode cX6_countFrom 73 = .ok (.isub, 1) := by decide +kernel
theorem dX6_countFrom_74 : decode cX6_countFrom 74 = .ok (.iastore, 1) := by decide +kernel
theorem dX6_countFrom_75 : decode cX6_countFrom 75 = .ok (.aload_n 1, 1) := by decide +kernel
theorem dX6_countFrom_76 : decode cX6_countFrom 76 = .ok (.getfield 250, 3) := by decide +kernel
theorem dX6_countFrom_79 : decode cX6_countFrom 79 = .ok (.iload_n 2, 1) := by decide +kernel
theorem dX6_countFrom_80 : decode cX6_countFrom 80 = .ok (.iload 6, 2) := by decide +kernel
theorem dX6_countFrom_82 : decode cX6_countFrom 82 = .ok (.iastore, 1) := by decide +kernel
theorem dX6_countFrom_83 : decode cX6_countFrom 83 = .ok (.aload_n 0, 1) := by decide +kernel
theorem dX6_countFrom_84 : decode cX6_countFrom 84 = .ok (.aload_n 1, 1) := by decide +kernel
theorem dX6_countFrom_85 : decode cX6_countFrom 85 = .ok (.iload_n 2, 1) := by decide +kernel
theorem dX6_countFrom_86 : decode cX6_countFrom 86 = .ok (.iconst 1, 1) := by decide +kernel
theorem dX6_countFrom_87 : decode cX6_countFrom 87 = .ok (.iadd, 1) := by decide +kernel
theorem dX6_countFrom_88 : decode cX6_countFrom 88 = .ok (.iload_n 3, 1) := by decide +kernel
theorem dX6_countFrom_89 : decode cX6_countFrom 89 = .ok (.iload 4, 2) := by decide +kernel
theorem dX6_countFrom_91 : decode cX6_countFrom 91 = .ok (.iconst 1, 1) := by decide +kernel
theorem dX6_countFrom_92 : decode cX6_countFrom 92 = .ok (.iadd, 1) := by decide +kernel
theorem dX6_countFrom_93 : decode cX6_countFrom 93 = .ok (.invokestatic 253, 3) := by decide +kernel
theorem dX6_countFrom_96 : decode cX6_countFrom 96 = .ok (.aload_n 1, 1) := by decide +kernel
theorem dX6_countFrom_97 : decode cX6_countFrom 97 = .ok (.getfield 187, 3) := by decide +kernel
theorem dX6_countFrom_100 : decode cX6_countFrom 100 = .ok (.iload 6, 2) := by decide +kernel
theorem dX6_countFrom_102 : decode cX6_countFrom 102 = .ok (.dup2, 1) := by decide +kernel
theorem dX6_countFrom_103 : decode cX6_countFrom 103 = .ok (.iaload, 1) := by decide +kernel
theorem dX6_countFrom_104 : decode cX6_countFrom 104 = .ok (.iload 5, 2) := by decide +kernel
theorem dX6_countFrom_106 : decode cX6_countFrom 106 = .ok (.iadd, 1) := by decide +kernel
theorem dX6_countFrom_107 : decode cX6_countFrom 107 = .ok (.iastore, 1) := by decide +kernel
theorem dX6_countFrom_108 : decode cX6_countFrom 108 = .ok (.iinc 6 1, 3) := by decide +kernel
theorem dX6_countFrom_111 : decode cX6_countFrom 111 = .ok (.goto (-68), 3) := by decide +kernel
theorem dX6_countFrom_114 : decode cX6_countFrom 114 = .ok (.iload_n 3, 1) := by decide +kernel
theorem dX6_countFrom_115 : decode cX6_countFrom 115 = .ok (.aload_n 0, 1) := by decide +kernel
theorem dX6_countFrom_116 : decode cX6_countFrom 116 = .ok (.getfield 81, 3) := by decide +kernel
theorem dX6_countFrom_119 : decode cX6_countFrom 119 = .ok (.if_icmp .ge 46, 3) := by decide +kernel
theorem dX6_countFrom_122 : decode cX6_countFrom 122 = .ok (.aload_n 0, 1) := by decide +kernel
theorem dX6_countFrom_123 : decode cX6_countFrom 123 = .ok (.iload_n 2, 1) := by decide +kernel
theorem dX6_countFrom_124 : decode cX6_countFrom 124 = .ok (.invokevirtual 180, 3) := by decide +kernel
theorem dX6_countFrom_127 : decode cX6_countFrom 127 = .ok (.ifCond .eq 38, 3) := by decide +kernel
theorem dX6_countFrom_130 : decode cX6_countFrom 130 = .ok (.aload_n 1, 1) := by decide +kernel
theorem dX6_countFrom_131 : decode cX6_countFrom 131 = .ok (.getfield 250, 3) := by decide +kernel
theorem dX6_countFrom_134 : decode cX6_countFrom 134 = .ok (.iload_n 2, 1) := by decide +kernel
theorem dX6_countFrom_135 : decode cX6_countFrom 135 = .ok (.iconst 1, 1) := by decide +kernel
theorem dX6_countFrom_136 : decode cX6_countFrom 136 = .ok (.isub, 1) := by decide +kernel
theorem dX6_countFrom_137 : decode cX6_countFrom 137 = .ok (.iaload, 1) := by decide +kernel
theorem dX6_countFrom_138 : decode cX6_countFrom 138 = .ok (.iconst (-1), 1) := by decide +kernel
theorem dX6_countFrom_139 : decode cX6_countFrom 139 = .ok (.if_icmp .eq 26, 3) := by decide +kernel
theorem dX6_countFrom_142 : decode cX6_countFrom 142 = .ok (.aload_n 1, 1) := by decide +kernel
theorem dX6_countFrom_143 : decode cX6_countFrom 143 = .ok (.getfield 250, 3) := by decide +kernel
theorem dX6_countFrom_146 : decode cX6_countFrom 146 = .ok (.iload_n 2, 1) := by decide +kernel
theorem dX6_countFrom_147 : decode cX6_countFrom 147 = .ok (.bipush 9, 2) := by decide +kernel
theorem dX6_countFrom_149 : decode cX6_countFrom 149 = .ok (.iastore, 1) := by decide +kernel
theorem dX6_countFrom_150 : decode cX6_countFrom 150 = .ok (.aload_n 0, 1) := by decide +kernel
theorem dX6_countFrom_151 : decode cX6_countFrom 151 = .ok (.aload_n 1, 1) := by decide +kernel
theorem dX6_countFrom_152 : decode cX6_countFrom 152 = .ok (.iload_n 2, 1) := by decide +kernel
theorem dX6_countFrom_153 : decode cX6_countFrom 153 = .ok (.iconst 1, 1) := by decide +kernel
theorem dX6_countFrom_154 : decode cX6_countFrom 154 = .ok (.iadd, 1) := by decide +kernel
theorem dX6_countFrom_155 : decode cX6_countFrom 155 = .ok (.iload_n 3, 1) := by decide +kernel
theorem dX6_countFrom_156 : decode cX6_countFrom 156 = .ok (.iconst 1, 1) := by decide +kernel
theorem dX6_countFrom_157 : decode cX6_countFrom 157 = .ok (.iadd, 1) := by decide +kernel
theorem dX6_countFrom_158 : decode cX6_countFrom 158 = .ok (.iload 4, 2) := by decide +kernel
theorem dX6_countFrom_160 : decode cX6_countFrom 160 = .ok (.iconst 1, 1) := by decide +kernel
theorem dX6_countFrom_161 : decode cX6_countFrom 161 = .ok (.iadd, 1) := by decide +kernel
theorem dX6_countFrom_162 : decode cX6_countFrom 162 = .ok (.invokestatic 253, 3) := by decide +kernel
theorem dX6_countFrom_165 : decode cX6_countFrom 165 = .ok (.aload_n 1, 1) := by decide +kernel
theorem dX6_countFrom_166 : decode cX6_countFrom 166 = .ok (.getfield 250, 3) := by decide +kernel
theorem dX6_countFrom_169 : decode cX6_countFrom 169 = .ok (.iload_n 2, 1) := by decide +kernel
theorem dX6_countFrom_170 : decode cX6_countFrom 170 = .ok (.iconst (-1), 1) := by decide +kernel
theorem dX6_countFrom_171 : decode cX6_countFrom 171 = .ok (.iastore, 1) := by decide +kernel
theorem dX6_countFrom_172 : decode cX6_countFrom 172 = .ok (.aload_n 0, 1) := by decide +kernel
theorem dX6_countFrom_173 : decode cX6_countFrom 173 = .ok (.aload_n 1, 1) := by decide +kernel
theorem dX6_countFrom_174 : decode cX6_countFrom 174 = .ok (.iload_n 2, 1) := by decide +kernel
theorem dX6_countFrom_175 : decode cX6_countFrom 175 = .ok (.iconst 1, 1) := by decide +kernel
theorem dX6_countFrom_176 : decode cX6_countFrom 176 = .ok (.iadd, 1) := by decide +kernel
theorem dX6_countFrom_177 : decode cX6_countFrom 177 = .ok (.iload_n 3, 1) := by decide +kernel
theorem dX6_countFrom_178 : decode cX6_countFrom 178 = .ok (.iload 4, 2) := by decide +kernel
theorem dX6_countFrom_180 : decode cX6_countFrom 180 = .ok (.invokestatic 253, 3) := by decide +kernel
theorem dX6_countFrom_183 : decode cX6_countFrom 183 = .ok (.return_, 1) := by decide +kernel
theorem dX6_unitsInBest_0 : decode cX6_unitsInBest 0 = .ok (.aload_n 0, 1) := by decide +kernel
theorem dX6_unitsInBest_1 : decode cX6_unitsInBest 1 = .ok (.aload_n 1, 1) := by decide +kernel
theorem dX6_unitsInBest_2 : decode cX6_unitsInBest 2 = .ok (.aload_n 1, 1) := by decide +kernel
theorem dX6_unitsInBest_3 : decode cX6_unitsInBest 3 = .ok (.invokevirtual 97, 3) := by decide +kernel
theorem dX6_unitsInBest_6 : decode cX6_unitsInBest 6 = .ok (.invokevirtual 101, 3) := by decide +kernel
theorem dX6_unitsInBest_9 : decode cX6_unitsInBest 9 = .ok (.bipush (-9), 2) := by decide +kernel
theorem dX6_unitsInBest_11 : decode cX6_unitsInBest 11 = .ok (.if_icmp .ne 8, 3) := by decide +kernel
theorem dX6_unitsInBest_14 : decode cX6_unitsInBest 14 = .ok (.bipush (-9), 2) := by decide +kernel
theorem dX6_unitsInBest_16 : decode cX6_unitsInBest 16 = .ok (.goto 12, 3) := by decide +kernel
theorem dX6_unitsInBest_19 : decode cX6_unitsInBest 19 = .ok (.aload_n 0, 1) := by decide +kernel
theorem dX6_unitsInBest_20 : decode cX6_unitsInBest 20 = .ok (.getfield 29, 3) := by decide +kernel
theorem dX6_unitsInBest_23 : decode cX6_unitsInBest 23 = .ok (.aload_n 1, 1) := by decide +kernel
theorem dX6_unitsInBest_24 : decode cX6_unitsInBest 24 = .ok (.iload_n 2, 1) := by decide +kernel
theorem dX6_unitsInBest_25 : decode cX6_unitsInBest 25 = .ok (.invokevirtual 256, 3) := by decide +kernel
theorem dX6_unitsInBest_28 : decode cX6_unitsInBest 28 = .ok (.ireturn, 1) := by decide +kernel
theorem dX6_paidTo_0 : decode cX6_paidTo 0 = .ok (.aload_n 1, 1) := by decide +kernel
theorem dX6_paidTo_1 : decode cX6_paidTo 1 = .ok (.invokevirtual 97, 3) := by decide +kernel
theorem dX6_paidTo_4 : decode cX6_paidTo 4 = .ok (.istore_n 3, 1) := by decide +kernel
theorem dX6_paidTo_5 : decode cX6_paidTo 5 = .ok (.aload_n 0, 1) := by decide +kernel
theorem dX6_paidTo_6 : decode cX6_paidTo 6 = .ok (.aload_n 1, 1) := by decide +kernel
theorem dX6_paidTo_7 : decode cX6_paidTo 7 = .ok (.iload_n 3, 1) := by decide +kernel
theorem dX6_paidTo_8 : decode cX6_paidTo 8 = .ok (.invokevirtual 101, 3) := by decide +kernel
theorem dX6_paidTo_11 : decode cX6_paidTo 11 = .ok (.istore 4, 2) := by decide +kernel
theorem dX6_paidTo_13 : decode cX6_paidTo 13 = .ok (.iload 4, 2) := by decide +kernel
theorem dX6_paidTo_15 : decode cX6_paidTo 15 = .ok (.bipush (-9), 2) := by decide +kernel
theorem dX6_paidTo_17 : decode cX6_paidTo 17 = .ok (.if_icmp .ne 6, 3) := by decide +kernel
theorem dX6_paidTo_20 : decode cX6_paidTo 20 = .ok (.bipush (-9), 2) := by decide +kernel
theorem dX6_paidTo_22 : decode cX6_paidTo 22 = .ok (.ireturn, 1) := by decide +kernel
theorem dX6_paidTo_23 : decode cX6_paidTo 23 = .ok (.aload_n 0, 1) := by decide +kernel
theorem dX6_paidTo_24 : decode cX6_paidTo 24 = .ok (.getfield 29, 3) := by decide +kernel
theorem dX6_paidTo_27 : decode cX6_paidTo 27 = .ok (.aload_n 1, 1) := by decide +kernel
theorem dX6_paidTo_28 : decode cX6_paidTo 28 = .ok (.iload_n 2, 1) := by decide +kernel
theorem dX6_paidTo_29 : decode cX6_paidTo 29 = .ok (.invokevirtual 256, 3) := by decide +kernel
theorem dX6_paidTo_32 : decode cX6_paidTo 32 = .ok (.aload_n 1, 1) := by decide +kernel
theorem dX6_paidTo_33 : decode cX6_paidTo 33 = .ok (.getfield 136, 3) := by decide +kernel
theorem dX6_paidTo_36 : decode cX6_paidTo 36 = .ok (.iload_n 2, 1) := by decide +kernel
theorem dX6_paidTo_37 : decode cX6_paidTo 37 = .ok (.iaload, 1) := by decide +kernel
theorem dX6_paidTo_38 : decode cX6_paidTo 38 = .ok (.imul, 1) := by decide +kernel
theorem dX6_paidTo_39 : decode cX6_paidTo 39 = .ok (.istore 5, 2) := by decide +kernel
theorem dX6_paidTo_41 : decode cX6_paidTo 41 = .ok (.aload_n 0, 1) := by decide +kernel
theorem dX6_paidTo_42 : decode cX6_paidTo 42 = .ok (.aload_n 1, 1) := by decide +kernel
theorem dX6_paidTo_43 : decode cX6_paidTo 43 = .ok (.iload_n 3, 1) := by decide +kernel
theorem dX6_paidTo_44 : decode cX6_paidTo 44 = .ok (.iconst 1, 1) := by decide +kernel
theorem dX6_paidTo_45 : decode cX6_paidTo 45 = .ok (.iload_n 2, 1) := by decide +kernel
theorem dX6_paidTo_46 : decode cX6_paidTo 46 = .ok (.ishl, 1) := by decide +kernel
theorem dX6_paidTo_47 : decode cX6_paidTo 47 = .ok (.iconst (-1), 1) := by decide +kernel
theorem dX6_paidTo_48 : decode cX6_paidTo 48 = .ok (.ixor, 1) := by decide +kernel
theorem dX6_paidTo_49 : decode cX6_paidTo 49 = .ok (.iand, 1) := by decide +kernel
theorem dX6_paidTo_50 : decode cX6_paidTo 50 = .ok (.invokevirtual 101, 3) := by decide +kernel
theorem dX6_paidTo_53 : decode cX6_paidTo 53 = .ok (.istore 6, 2) := by decide +kernel
theorem dX6_paidTo_55 : decode cX6_paidTo 55 = .ok (.iload 6, 2) := by decide +kernel
theorem dX6_paidTo_57 : decode cX6_paidTo 57 = .ok (.bipush (-9), 2) := by decide +kernel
theorem dX6_paidTo_59 : decode cX6_paidTo 59 = .ok (.if_icmp .ne 8, 3) := by decide +kernel
theorem dX6_paidTo_62 : decode cX6_paidTo 62 = .ok (.bipush (-9), 2) := by decide +kernel
theorem dX6_paidTo_64 : decode cX6_paidTo 64 = .ok (.goto 11, 3) := by decide +kernel
theorem dX6_paidTo_67 : decode cX6_paidTo 67 = .ok (.iload 5, 2) := by decide +kernel
theorem dX6_paidTo_69 : decode cX6_paidTo 69 = .ok (.iload 6, 2) := by decide +kernel
theorem dX6_paidTo_71 : decode cX6_paidTo 71 = .ok (.iadd, 1) := by decide +kernel
theorem dX6_paidTo_72 : decode cX6_paidTo 72 = .ok (.iload 4, 2) := by decide +kernel
theorem dX6_paidTo_74 : decode cX6_paidTo 74 = .ok (.isub, 1) := by decide +kernel
theorem dX6_paidTo_75 : decode cX6_paidTo 75 = .ok (.ireturn, 1) := by decide +kernel
theorem dX6_runYears_0 : decode cX6_runYears 0 = .ok (.aload_n 0, 1) := by decide +kernel
theorem dX6_runYears_1 : decode cX6_runYears 1 = .ok (.getfield 23, 3) := by decide +kernel
theorem dX6_runYears_4 : decode cX6_runYears 4 = .ok (.aload_n 0, 1) := by decide +kernel
theorem dX6_runYears_5 : decode cX6_runYears 5 = .ok (.getfield 19, 3) := by decide +kernel
theorem dX6_runYears_8 : decode cX6_runYears 8 = .ok (.invokevirtual 84, 3) := by decide +kernel
theorem dX6_runYears_11 : decode cX6_runYears 11 = .ok (.aload_n 0, 1) := by decide +kernel
theorem dX6_runYears_12 : decode cX6_runYears 12 = .ok (.getfield 36, 3) := by decide +kernel
theorem dX6_runYears_15 : decode cX6_runYears 15 = .ok (.iconst 0, 1) := by decide +kernel
theorem dX6_runYears_16 : decode cX6_runYears 16 = .ok (.putfield 111, 3) := by decide +kernel
theorem dX6_runYears_19 : decode cX6_runYears 19 = .ok (.aload_n 0, 1) := by decide +kernel
theorem dX6_runYears_20 : decode cX6_runYears 20 = .ok (.getfield 36, 3) := by decide +kernel
theorem dX6_runYears_23 : decode cX6_runYears 23 = .ok (.iconst 0, 1) := by decide +kernel
theorem dX6_runYears_24 : decode cX6_runYears 24 = .ok (.putfield 193, 3) := by decide +kernel
theorem dX6_runYears_27 : decode cX6_runYears 27 = .ok (.aload_n 0, 1) := by decide +kernel
theorem dX6_runYears_28 : decode cX6_runYears 28 = .ok (.getfield 36, 3) := by decide +kernel
theorem dX6_runYears_31 : decode cX6_runYears 31 = .ok (.bipush (-9), 2) := by decide +kernel
theorem dX6_runYears_33 : decode cX6_runYears 33 = .ok (.putfield 190, 3) := by decide +kernel
theorem dX6_runYears_36 : decode cX6_runYears 36 = .ok (.aload_n 0, 1) := by decide +kernel
theorem dX6_runYears_37 : decode cX6_runYears 37 = .ok (.getfield 19, 3) := by decide +kernel
theorem dX6_runYears_40 : decode cX6_runYears 40 = .ok (.getfield 94, 3) := by decide +kernel
theorem dX6_runYears_43 : decode cX6_runYears 43 = .ok (.ifCond .ne 7, 3) := by decide +kernel
theorem dX6_runYears_46 : decode cX6_runYears 46 = .ok (.iconst 0, 1) := by decide +kernel
theorem dX6_runYears_47 : decode cX6_runYears 47 = .ok (.goto 5, 3) := by decide +kernel
theorem dX6_runYears_50 : decode cX6_runYears 50 = .ok (.bipush 36, 2) := by decide +kernel
theorem dX6_runYears_52 : decode cX6_runYears 52 = .ok (.istore_n 1, 1) := by decide +kernel
theorem dX6_runYears_53 : decode cX6_runYears 53 = .ok (.iconst 0, 1) := by decide +kernel
theorem dX6_runYears_54 : decode cX6_runYears 54 = .ok (.istore_n 2, 1) := by decide +kernel
theorem dX6_runYears_55 : decode cX6_runYears 55 = .ok (.iload_n 2, 1) := by decide +kernel
theorem dX6_runYears_56 : decode cX6_runYears 56 = .ok (.iload_n 1, 1) := by decide +kernel
theorem dX6_runYears_57 : decode cX6_runYears 57 = .ok (.if_icmp .ge 139, 3) := by decide +kernel
theorem dX6_runYears_60 : decode cX6_runYears 60 = .ok (.aload_n 0, 1) := by decide +kernel
theorem dX6_runYears_61 : decode cX6_runYears 61 = .ok (.aload_n 0, 1) := by decide +kernel
theorem dX6_runYears_62 : decode cX6_runYears 62 = .ok (.getfield 23, 3) := by decide +kernel
theorem dX6_runYears_65 : decode cX6_runYears 65 = .ok (.aload_n 0, 1) := by decide +kernel
theorem dX6_runYears_66 : decode cX6_runYears 66 = .ok (.getfield 23, 3) := by decide +kernel
theorem dX6_runYears_69 : decode cX6_runYears 69 = .ok (.invokevirtual 97, 3) := by decide +kernel
theorem dX6_runYears_72 : decode cX6_runYears 72 = .ok (.invokevirtual 101, 3) := by decide +kernel
theorem dX6_runYears_75 : decode cX6_runYears 75 = .ok (.istore_n 3, 1) := by decide +kernel
theorem dX6_runYears_76 : decode cX6_runYears 76 = .ok (.iload_n 3, 1) := by decide +kernel
theorem dX6_runYears_77 : decode cX6_runYears 77 = .ok (.bipush (-9), 2) := by decide +kernel
theorem dX6_runYears_79 : decode cX6_runYears 79 = .ok (.if_icmp .ne 4, 3) := by decide +kernel
theorem dX6_runYears_82 : decode cX6_runYears 82 = .ok (.return_, 1) := by decide +kernel
theorem dX6_runYears_83 : decode cX6_runYears 83 = .ok (.aload_n 0, 1) := by decide +kernel
theorem dX6_runYears_84 : decode cX6_runYears 84 = .ok (.getfield 36, 3) := by decide +kernel
theorem dX6_runYears_87 : decode cX6_runYears 87 = .ok (.dup, 1) := by decide +kernel
theorem dX6_runYears_88 : decode cX6_runYears 88 = .ok (.getfield 111, 3) := by decide +kernel
theorem dX6_runYears_91 : decode cX6_runYears 91 = .ok (.iconst 1, 1) := by decide +kernel
theorem dX6_runYears_92 : decode cX6_runYears 92 = .ok (.iadd, 1) := by decide +kernel
theorem dX6_runYears_93 : decode cX6_runYears 93 = .ok (.putfield 111, 3) := by decide +kernel
theorem dX6_runYears_96 : decode cX6_runYears 96 = .ok (.aload_n 0, 1) := by decide +kernel
theorem dX6_runYears_97 : decode cX6_runYears 97 = .ok (.getfield 36, 3) := by decide +kernel
theorem dX6_runYears_100 : decode cX6_runYears 100 = .ok (.dup, 1) := by decide +kernel
theorem dX6_runYears_101 : decode cX6_runYears 101 = .ok (.getfield 193, 3) := by decide +kernel
theorem dX6_runYears_104 : decode cX6_runYears 104 = .ok (.iload_n 3, 1) := by decide +kernel
theorem dX6_runYears_105 : decode cX6_runYears 105 = .ok (.iadd, 1) := by decide +kernel
theorem dX6_runYears_106 : decode cX6_runYears 106 = .ok (.putfield 193, 3) := by decide +kernel
theorem dX6_runYears_109 : decode cX6_runYears 109 = .ok (.aload_n 0, 1) := by decide +kernel
theorem dX6_runYears_110 : decode cX6_runYears 110 = .ok (.getfield 36, 3) := by decide +kernel
theorem dX6_runYears_113 : decode cX6_runYears 113 = .ok (.getfield 190, 3) := by decide +kernel
theorem dX6_runYears_116 : decode cX6_runYears 116 = .ok (.bipush (-9), 2) := by decide +kernel
theorem dX6_runYears_118 : decode cX6_runYears 118 = .ok (.if_icmp .ne 25, 3) := by decide +kernel
theorem dX6_runYears_121 : decode cX6_runYears 121 = .ok (.aload_n 0, 1) := by decide +kernel
theorem dX6_runYears_122 : decode cX6_runYears 122 = .ok (.getfield 29, 3) := by decide +kernel
theorem dX6_runYears_125 : decode cX6_runYears 125 = .ok (.aload_n 0, 1) := by decide +kernel
theorem dX6_runYears_126 : decode cX6_runYears 126 = .ok (.getfield 23, 3) := by decide +kernel
theorem dX6_runYears_129 : decode cX6_runYears 129 = .ok (.invokevirtual 259, 3) := by decide +kernel
theorem dX6_runYears_132 : decode cX6_runYears 132 = .ok (.ifCond .eq 11, 3) := by decide +kernel
theorem dX6_runYears_135 : decode cX6_runYears 135 = .ok (.aload_n 0, 1) := by decide +kernel
theorem dX6_runYears_136 : decode cX6_runYears 136 = .ok (.getfield 36, 3) := by decide +kernel
theorem dX6_runYears_139 : decode cX6_runYears 139 = .ok (.iload_n 2, 1) := by decide +kernel
theorem dX6_runYears_140 : decode cX6_runYears 140 = .ok (.putfield 190, 3) := by decide +kernel
theorem dX6_runYears_143 : decode cX6_runYears 143 = .ok (.iconst 0, 1) := by decide +kernel
theorem dX6_runYears_144 : decode cX6_runYears 144 = .ok (.istore 4, 2) := by decide +kernel
theorem dX6_runYears_146 : decode cX6_runYears 146 = .ok (.iload 4, 2) := by decide +kernel
theorem dX6_runYears_148 : decode cX6_runYears 148 = .ok (.aload_n 0, 1) := by decide +kernel
theorem dX6_runYears_149 : decode cX6_runYears 149 = .ok (.getfield 23, 3) := by decide +kernel
theorem dX6_runYears_152 : decode cX6_runYears 152 = .ok (.getfield 91, 3) := by decide +kernel
theorem dX6_runYears_155 : decode cX6_runYears 155 = .ok (.if_icmp .ge 35, 3) := by decide +kernel
theorem dX6_runYears_158 : decode cX6_runYears 158 = .ok (.aload_n 0, 1) := by decide +kernel
theorem dX6_runYears_159 : decode cX6_runYears 159 = .ok (.getfield 23, 3) := by decide +kernel
theorem dX6_runYears_162 : decode cX6_runYears 162 = .ok (.getfield 133, 3) := by decide +kernel
theorem dX6_runYears_165 : decode cX6_runYears 165 = .ok (.iload 4, 2) := by decide +kernel
theorem dX6_runYears_167 : decode cX6_runYears 167 = .ok (.dup2, 1) := by decide +kernel
theorem dX6_runYears_168 : decode cX6_runYears 168 = .ok (.iaload, 1) := by decide +kernel
theorem dX6_runYears_169 : decode cX6_runYears 169 = .ok (.aload_n 0, 1) := by decide +kernel
theorem dX6_runYears_170 : decode cX6_runYears 170 = .ok (.getfield 29, 3) := by decide +kernel
theorem dX6_runYears_173 : decode cX6_runYears 173 = .ok (.aload_n 0, 1) := by decide +kernel
theorem dX6_runYears_174 : decode cX6_runYears 174 = .ok (.getfield 23, 3) := by decide +kernel
theorem dX6_runYears_177 : decode cX6_runYears 177 = .ok (.iload 4, 2) := by decide +kernel
theorem dX6_runYears_179 : decode cX6_runYears 179 = .ok (.invokevirtual 256, 3) := by decide +kernel
theorem dX6_runYears_182 : decode cX6_runYears 182 = .ok (.isub, 1) := by decide +kernel
theorem dX6_runYears_183 : decode cX6_runYears 183 = .ok (.iastore, 1) := by decide +kernel
theorem dX6_runYears_184 : decode cX6_runYears 184 = .ok (.iinc 4 1, 3) := by decide +kernel
theorem dX6_runYears_187 : decode cX6_runYears 187 = .ok (.goto (-41), 3) := by decide +kernel
theorem dX6_runYears_190 : decode cX6_runYears 190 = .ok (.iinc 2 1, 3) := by decide +kernel
theorem dX6_runYears_193 : decode cX6_runYears 193 = .ok (.goto (-138), 3) := by decide +kernel
theorem dX6_runYears_196 : decode cX6_runYears 196 = .ok (.return_, 1) := by decide +kernel
theorem dX6_sharesOf_0 : decode cX6_sharesOf 0 = .ok (.iconst 0, 1) := by decide +kernel
theorem dX6_sharesOf_1 : decode cX6_sharesOf 1 = .ok (.istore_n 2, 1) := by decide +kernel
theorem dX6_sharesOf_2 : decode cX6_sharesOf 2 = .ok (.iconst 0, 1) := by decide +kernel
theorem dX6_sharesOf_3 : decode cX6_sharesOf 3 = .ok (.istore_n 3, 1) := by decide +kernel
theorem dX6_sharesOf_4 : decode cX6_sharesOf 4 = .ok (.iload_n 3, 1) := by decide +kernel
theorem dX6_sharesOf_5 : decode cX6_sharesOf 5 = .ok (.aload_n 0, 1) := by decide +kernel
theorem dX6_sharesOf_6 : decode cX6_sharesOf 6 = .ok (.getfield 19, 3) := by decide +kernel
theorem dX6_sharesOf_9 : decode cX6_sharesOf 9 = .ok (.getfield 91, 3) := by decide +kernel
theorem dX6_sharesOf_12 : decode cX6_sharesOf 12 = .ok (.if_icmp .ge 27, 3) := by decide +kernel
theorem dX6_sharesOf_15 : decode cX6_sharesOf 15 = .ok (.iload_n 1, 1) := by decide +kernel
theorem dX6_sharesOf_16 : decode cX6_sharesOf 16 = .ok (.iload_n 3, 1) := by decide +kernel
theorem dX6_sharesOf_17 : decode cX6_sharesOf 17 = .ok (.ishr, 1) := by decide +kernel
theorem dX6_sharesOf_18 : decode cX6_sharesOf 18 = .ok (.iconst 1, 1) := by decide +kernel
theorem dX6_sharesOf_19 : decode cX6_sharesOf 19 = .ok (.iand, 1) := by decide +kernel
theorem dX6_sharesOf_20 : decode cX6_sharesOf 20 = .ok (.iconst 1, 1) := by decide +kernel
theorem dX6_sharesOf_21 : decode cX6_sharesOf 21 = .ok (.if_icmp .ne 12, 3) := by decide +kernel
theorem dX6_sharesOf_24 : decode cX6_sharesOf 24 = .ok (.iload_n 2, 1) := by decide +kernel
theorem dX6_sharesOf_25 : decode cX6_sharesOf 25 = .ok (.aload_n 0, 1) := by decide +kernel
theorem dX6_sharesOf_26 : decode cX6_sharesOf 26 = .ok (.getfield 58, 3) := by decide +kernel
theorem dX6_sharesOf_29 : decode cX6_sharesOf 29 = .ok (.iload_n 3, 1) := by decide +kernel
theorem dX6_sharesOf_30 : decode cX6_sharesOf 30 = .ok (.iaload, 1) := by decide +kernel
theorem dX6_sharesOf_31 : decode cX6_sharesOf 31 = .ok (.iadd, 1) := by decide +kernel
theorem dX6_sharesOf_32 : decode cX6_sharesOf 32 = .ok (.istore_n 2, 1) := by decide +kernel
theorem dX6_sharesOf_33 : decode cX6_sharesOf 33 = .ok (.iinc 3 1, 3) := by decide +kernel
theorem dX6_sharesOf_36 : decode cX6_sharesOf 36 = .ok (.goto (-32), 3) := by decide +kernel
theorem dX6_sharesOf_39 : decode cX6_sharesOf 39 = .ok (.iload_n 2, 1) := by decide +kernel
theorem dX6_sharesOf_40 : decode cX6_sharesOf 40 = .ok (.ireturn, 1) := by decide +kernel
theorem dX6_canBe_0 : decode cX6_canBe 0 = .ok (.aload_n 0, 1) := by decide +kernel
theorem dX6_canBe_1 : decode cX6_canBe 1 = .ok (.getfield 58, 3) := by decide +kernel
theorem dX6_canBe_4 : decode cX6_canBe 4 = .ok (.iload_n 1, 1) := by decide +kernel
theorem dX6_canBe_5 : decode cX6_canBe 5 = .ok (.iaload, 1) := by decide +kernel
theorem dX6_canBe_6 : decode cX6_canBe 6 = .ok (.istore_n 2, 1) := by decide +kernel
theorem dX6_canBe_7 : decode cX6_canBe 7 = .ok (.aload_n 0, 1) := by decide +kernel
theorem dX6_canBe_8 : decode cX6_canBe 8 = .ok (.getfield 58, 3) := by decide +kernel
theorem dX6_canBe_11 : decode cX6_canBe 11 = .ok (.iload_n 1, 1) := by decide +kernel
theorem dX6_canBe_12 : decode cX6_canBe 12 = .ok (.iconst 1, 1) := by decide +kernel
theorem dX6_canBe_13 : decode cX6_canBe 13 = .ok (.iadd, 1) := by decide +kernel
theorem dX6_canBe_14 : decode cX6_canBe 14 = .ok (.iaload, 1) := by decide +kernel
theorem dX6_canBe_15 : decode cX6_canBe 15 = .ok (.istore_n 3, 1) := by decide +kernel
theorem dX6_canBe_16 : decode cX6_canBe 16 = .ok (.aload_n 0, 1) := by decide +kernel
theorem dX6_canBe_17 : decode cX6_canBe 17 = .ok (.getfield 58, 3) := by decide +kernel
theorem dX6_canBe_20 : decode cX6_canBe 20 = .ok (.iload_n 1, 1) := by decide +kernel
theorem dX6_canBe_21 : decode cX6_canBe 21 = .ok (.iconst 2, 1) := by decide +kernel
theorem dX6_canBe_22 : decode cX6_canBe 22 = .ok (.iadd, 1) := by decide +kernel
theorem dX6_canBe_23 : decode cX6_canBe 23 = .ok (.iaload, 1) := by decide +kernel
theorem dX6_canBe_24 : decode cX6_canBe 24 = .ok (.istore 4, 2) := by decide +kernel
theorem dX6_canBe_26 : decode cX6_canBe 26 = .ok (.aload_n 0, 1) := by decide +kernel
theorem dX6_canBe_27 : decode cX6_canBe 27 = .ok (.getfield 58, 3) := by decide +kernel
theorem dX6_canBe_30 : decode cX6_canBe 30 = .ok (.iload_n 1, 1) := by decide +kernel
theorem dX6_canBe_31 : decode cX6_canBe 31 = .ok (.iconst 3, 1) := by decide +kernel
theorem dX6_canBe_32 : decode cX6_canBe 32 = .ok (.iadd, 1) := by decide +kernel
theorem dX6_canBe_33 : decode cX6_canBe 33 = .ok (.iaload, 1) := by decide +kernel
theorem dX6_canBe_34 : decode cX6_canBe 34 = .ok (.istore 5, 2) := by decide +kernel
theorem dX6_canBe_36 : decode cX6_canBe 36 = .ok (.aload_n 0, 1) := by decide +kernel
theorem dX6_canBe_37 : decode cX6_canBe 37 = .ok (.getfield 23, 3) := by decide +kernel
theorem dX6_canBe_40 : decode cX6_canBe 40 = .ok (.invokevirtual 97, 3) := by decide +kernel
theorem dX6_canBe_43 : decode cX6_canBe 43 = .ok (.istore 6, 2) := by decide +kernel
theorem dX6_canBe_45 : decode cX6_canBe 45 = .ok (.iload_n 2, 1) := by decide +kernel
theorem dX6_canBe_46 : decode cX6_canBe 46 = .ok (.tableswitch 214 1 7 #[42, 42, 42, 64, 90, 141, 184], 42) := by decide +kernel
theorem dX6_canBe_88 : decode cX6_canBe 88 = .ok (.iload 4, 2) := by decide +kernel
theorem dX6_canBe_90 : decode cX6_canBe 90 = .ok (.ifCond .ne 18, 3) := by decide +kernel
theorem dX6_canBe_93 : decode cX6_canBe 93 = .ok (.aload_n 0, 1) := by decide +kernel
theorem dX6_canBe_94 : decode cX6_canBe 94 = .ok (.iload_n 2, 1) := by decide +kernel
theorem dX6_canBe_95 : decode cX6_canBe 95 = .ok (.iload_n 3, 1) := by decide +kernel
theorem dX6_canBe_96 : decode cX6_canBe 96 = .ok (.iload 5, 2) := by decide +kernel
theorem dX6_canBe_98 : decode cX6_canBe 98 = .ok (.invokevirtual 262, 3) := by decide +kernel
theorem dX6_canBe_101 : decode cX6_canBe 101 = .ok (.ifCond .eq 7, 3) := by decide +kernel
theorem dX6_canBe_104 : decode cX6_canBe 104 = .ok (.iconst 1, 1) := by decide +kernel
theorem dX6_canBe_105 : decode cX6_canBe 105 = .ok (.goto 4, 3) := by decide +kernel
theorem dX6_canBe_108 : decode cX6_canBe 108 = .ok (.iconst 0, 1) := by decide +kernel
theorem dX6_canBe_109 : decode cX6_canBe 109 = .ok (.ireturn, 1) := by decide +kernel
theorem dX6_canBe_110 : decode cX6_canBe 110 = .ok (.iload_n 3, 1) := by decide +kernel
theorem dX6_canBe_111 : decode cX6_canBe 111 = .ok (.ifCond .ne 23, 3) := by decide +kernel
theorem dX6_canBe_114 : decode cX6_canBe 114 = .ok (.iload 4, 2) := by decide +kernel
theorem dX6_canBe_116 : decode cX6_canBe 116 = .ok (.ifCond .ne 18, 3) := by decide +kernel
theorem dX6_canBe_119 : decode cX6_canBe 119 = .ok (.aload_n 0, 1) := by decide +kernel
theorem dX6_canBe_120 : decode cX6_canBe 120 = .ok (.iload_n 2, 1) := by decide +kernel
theorem dX6_canBe_121 : decode cX6_canBe 121 = .ok (.iload_n 3, 1) := by decide +kernel
theorem dX6_canBe_122 : decode cX6_canBe 122 = .ok (.iload 5, 2) := by decide +kernel
theorem dX6_canBe_124 : decode cX6_canBe 124 = .ok (.invokevirtual 262, 3) := by decide +kernel
theorem dX6_canBe_127 : decode cX6_canBe 127 = .ok (.ifCond .eq 7, 3) := by decide +kernel
theorem dX6_canBe_130 : decode cX6_canBe 130 = .ok (.iconst 1, 1) := by decide +kernel
theorem dX6_canBe_131 : decode cX6_canBe 131 = .ok (.goto 4, 3) := by decide +kernel
theorem dX6_canBe_134 : decode cX6_canBe 134 = .ok (.iconst 0, 1) := by decide +kernel
theorem dX6_canBe_135 : decode cX6_canBe 135 = .ok (.ireturn, 1) := by decide +kernel
theorem dX6_canBe_136 : decode cX6_canBe 136 = .ok (.iload 4, 2) := by decide +kernel
theorem dX6_canBe_138 : decode cX6_canBe 138 = .ok (.ifCond .ne 47, 3) := by decide +kernel
theorem dX6_canBe_141 : decode cX6_canBe 141 = .ok (.aload_n 0, 1) := by decide +kernel
theorem dX6_canBe_142 : decode cX6_canBe 142 = .ok (.getfield 23, 3) := by decide +kernel
theorem dX6_canBe_145 : decode cX6_canBe 145 = .ok (.iload_n 3, 1) := by decide +kernel
theorem dX6_canBe_146 : decode cX6_canBe 146 = .ok (.invokevirtual 115, 3) := by decide +kernel
theorem dX6_canBe_149 : decode cX6_canBe 149 = .ok (.ifCond .eq 36, 3) := by decide +kernel
theorem dX6_canBe_152 : decode cX6_canBe 152 = .ok (.aload_n 0, 1) := by decide +kernel
theorem dX6_canBe_153 : decode cX6_canBe 153 = .ok (.aload_n 0, 1) := by decide +kernel
theorem dX6_canBe_154 : decode cX6_canBe 154 = .ok (.getfield 23, 3) := by decide +kernel
theorem dX6_canBe_157 : decode cX6_canBe 157 = .ok (.iload 6, 2) := by decide +kernel
theorem dX6_canBe_159 : decode cX6_canBe 159 = .ok (.invokevirtual 101, 3) := by decide +kernel
theorem dX6_canBe_162 : decode cX6_canBe 162 = .ok (.bipush (-9), 2) := by decide +kernel
theorem dX6_canBe_164 : decode cX6_canBe 164 = .ok (.if_icmp .eq 21, 3) := by decide +kernel
theorem dX6_canBe_167 : decode cX6_canBe 167 = .ok (.aload_n 0, 1) := by decide +kernel
theorem dX6_canBe_168 : decode cX6_canBe 168 = .ok (.getfield 29, 3) := by decide +kernel
theorem dX6_canBe_171 : decode cX6_canBe 171 = .ok (.getfield 124, 3) := by decide +kernel
theorem dX6_canBe_174 : decode cX6_canBe 174 = .ok (.iload_n 3, 1) := by decide +kernel
theorem dX6_canBe_175 : decode cX6_canBe 175 = .ok (.iaload, 1) := by decide +kernel
theorem dX6_canBe_176 : decode cX6_canBe 176 = .ok (.iload 5, 2) := by decide +kernel
theorem dX6_canBe_178 : decode cX6_canBe 178 = .ok (.if_icmp .ne 7, 3) := by decide +kernel
theorem dX6_canBe_181 : decode cX6_canBe 181 = .ok (.iconst 1, 1) := by decide +kernel
theorem dX6_canBe_182 : decode cX6_canBe 182 = .ok (.goto 4, 3) := by decide +kernel
theorem dX6_canBe_185 : decode cX6_canBe 185 = .ok (.iconst 0, 1) := by decide +kernel
theorem dX6_canBe_186 : decode cX6_canBe 186 = .ok (.ireturn, 1) := by decide +kernel
theorem dX6_canBe_187 : decode cX6_canBe 187 = .ok (.iload_n 3, 1) := by decide +kernel
theorem dX6_canBe_188 : decode cX6_canBe 188 = .ok (.ifCond .ne 40, 3) := by decide +kernel
theorem dX6_canBe_191 : decode cX6_canBe 191 = .ok (.aload_n 0, 1) := by decide +kernel
theorem dX6_canBe_192 : decode cX6_canBe 192 = .ok (.aload_n 0, 1) := by decide +kernel
theorem dX6_canBe_193 : decode cX6_canBe 193 = .ok (.getfield 23, 3) := by decide +kernel
theorem dX6_canBe_196 : decode cX6_canBe 196 = .ok (.iload 6, 2) := by decide +kernel
theorem dX6_canBe_198 : decode cX6_canBe 198 = .ok (.invokevirtual 101, 3) := by decide +kernel
theorem dX6_canBe_201 : decode cX6_canBe 201 = .ok (.bipush (-9), 2) := by decide +kernel
theorem dX6_canBe_203 : decode cX6_canBe 203 = .ok (.if_icmp .eq 25, 3) := by decide +kernel
theorem dX6_canBe_206 : decode cX6_canBe 206 = .ok (.aload_n 0, 1) := by decide +kernel
theorem dX6_canBe_207 : decode cX6_canBe 207 = .ok (.getfield 29, 3) := by decide +kernel
theorem dX6_canBe_210 : decode cX6_canBe 210 = .ok (.getfield 239, 3) := by decide +kernel
theorem dX6_canBe_213 : decode cX6_canBe 213 = .ok (.bipush 10, 2) := by decide +kernel
theorem dX6_canBe_215 : decode cX6_canBe 215 = .ok (.iload 4, 2) := by decide +kernel
theorem dX6_canBe_217 : decode cX6_canBe 217 = .ok (.imul, 1) := by decide +kernel
theorem dX6_canBe_218 : decode cX6_canBe 218 = .ok (.iload 5, 2) := by decide +kernel
theorem dX6_canBe_220 : decode cX6_canBe 220 = .ok (.iadd, 1) := by decide +kernel
theorem dX6_canBe_221 : decode cX6_canBe 221 = .ok (.if_icmp .gt 7, 3) := by decide +kernel
theorem dX6_canBe_224 : decode cX6_canBe 224 = .ok (.iconst 1, 1) := by decide +kernel
theorem dX6_canBe_225 : decode cX6_canBe 225 = .ok (.goto 4, 3) := by decide +kernel
theorem dX6_canBe_228 : decode cX6_canBe 228 = .ok (.iconst 0, 1) := by decide +kernel
theorem dX6_canBe_229 : decode cX6_canBe 229 = .ok (.ireturn, 1) := by decide +kernel
theorem dX6_canBe_230 : decode cX6_canBe 230 = .ok (.iload_n 3, 1) := by decide +kernel
theorem dX6_canBe_231 : decode cX6_canBe 231 = .ok (.ifCond .ne 27, 3) := by decide +kernel
theorem dX6_canBe_234 : decode cX6_canBe 234 = .ok (.iload 4, 2) := by decide +kernel
theorem dX6_canBe_236 : decode cX6_canBe 236 = .ok (.ifCond .ne 22, 3) := by decide +kernel
theorem dX6_canBe_239 : decode cX6_canBe 239 = .ok (.aload_n 0, 1) := by decide +kernel
theorem dX6_canBe_240 : decode cX6_canBe 240 = .ok (.aload_n 0, 1) := by decide +kernel
theorem dX6_canBe_241 : decode cX6_canBe 241 = .ok (.getfield 23, 3) := by decide +kernel
theorem dX6_canBe_244 : decode cX6_canBe 244 = .ok (.iload 6, 2) := by decide +kernel
theorem dX6_canBe_246 : decode cX6_canBe 246 = .ok (.invokevirtual 105, 3) := by decide +kernel
theorem dX6_canBe_249 : decode cX6_canBe 249 = .ok (.iload 5, 2) := by decide +kernel
theorem dX6_canBe_251 : decode cX6_canBe 251 = .ok (.if_icmp .ne 7, 3) := by decide +kernel
theorem dX6_canBe_254 : decode cX6_canBe 254 = .ok (.iconst 1, 1) := by decide +kernel
theorem dX6_canBe_255 : decode cX6_canBe 255 = .ok (.goto 4, 3) := by decide +kernel
theorem dX6_canBe_258 : decode cX6_canBe 258 = .ok (.iconst 0, 1) := by decide +kernel
theorem dX6_canBe_259 : decode cX6_canBe 259 = .ok (.ireturn, 1) := by decide +kernel
theorem dX6_canBe_260 : decode cX6_canBe 260 = .ok (.iconst 0, 1) := by decide +kernel
theorem dX6_canBe_261 : decode cX6_canBe 261 = .ok (.ireturn, 1) := by decide +kernel
theorem dX6_changesTrial_0 : decode cX6_changesTrial 0 = .ok (.aload_n 0, 1) := by decide +kernel
theorem dX6_changesTrial_1 : decode cX6_changesTrial 1 = .ok (.getfield 23, 3) := by decide +kernel
theorem dX6_changesTrial_4 : decode cX6_changesTrial 4 = .ok (.iload_n 1, 1) := by decide +kernel
theorem dX6_changesTrial_5 : decode cX6_changesTrial 5 = .ok (.iload_n 2, 1) := by decide +kernel
theorem dX6_changesTrial_6 : decode cX6_changesTrial 6 = .ok (.iload_n 3, 1) := by decide +kernel
theorem dX6_changesTrial_7 : decode cX6_changesTrial 7 = .ok (.invokevirtual 161, 3) := by decide +kernel
theorem dX6_changesTrial_10 : decode cX6_changesTrial 10 = .ok (.ifCond .eq 5, 3) := by decide +kernel
theorem dX6_changesTrial_13 : decode cX6_changesTrial 13 = .ok (.iconst 0, 1) := by decide +kernel
theorem dX6_changesTrial_14 : decode cX6_changesTrial 14 = .ok (.ireturn, 1) := by decide +kernel
theorem dX6_changesTrial_15 : decode cX6_changesTrial 15 = .ok (.aload_n 0, 1) := by decide +kernel
theorem dX6_changesTrial_16 : decode cX6_changesTrial 16 = .ok (.getfield 23, 3) := by decide +kernel
theorem dX6_changesTrial_19 : decode cX6_changesTrial 19 = .ok (.iload_n 1, 1) := by decide +kernel
theorem dX6_changesTrial_20 : decode cX6_changesTrial 20 = .ok (.iload_n 2, 1) := by decide +kernel
theorem dX6_changesTrial_21 : decode cX6_changesTrial 21 = .ok (.iload_n 3, 1) := by decide +kernel
theorem dX6_changesTrial_22 : decode cX6_changesTrial 22 = .ok (.invokevirtual 158, 3) := by decide +kernel
theorem dX6_changesTrial_25 : decode cX6_changesTrial 25 = .ok (.pop, 1) := by decide +kernel
theorem dX6_changesTrial_26 : decode cX6_changesTrial 26 = .ok (.iconst 1, 1) := by decide +kernel
theorem dX6_changesTrial_27 : decode cX6_changesTrial 27 = .ok (.ireturn, 1) := by decide +kernel
theorem dX6_allSeenIsSo_0 : decode cX6_allSeenIsSo 0 = .ok (.aload_n 0, 1) := by decide +kernel
theorem dX6_allSeenIsSo_1 : decode cX6_allSeenIsSo 1 = .ok (.aload_n 1, 1) := by decide +kernel
theorem dX6_allSeenIsSo_2 : decode cX6_allSeenIsSo 2 = .ok (.aload_n 1, 1) := by decide +kernel
theorem dX6_allSeenIsSo_3 : decode cX6_allSeenIsSo 3 = .ok (.invokevirtual 97, 3) := by decide +kernel
theorem dX6_allSeenIsSo_6 : decode cX6_allSeenIsSo 6 = .ok (.invokevirtual 101, 3) := by decide +kernel
theorem dX6_allSeenIsSo_9 : decode cX6_allSeenIsSo 9 = .ok (.bipush (-9), 2) := by decide +kernel
theorem dX6_allSeenIsSo_11 : decode cX6_allSeenIsSo 11 = .ok (.if_icmp .eq 7, 3) := by decide +kernel
theorem dX6_allSeenIsSo_14 : decode cX6_allSeenIsSo 14 = .ok (.iconst 1, 1) := by decide +kernel
theorem dX6_allSeenIsSo_15 : decode cX6_allSeenIsSo 15 = .ok (.goto 4, 3) := by decide +kernel
theorem dX6_allSeenIsSo_18 : decode cX6_allSeenIsSo 18 = .ok (.iconst 0, 1) := by decide +kernel
theorem dX6_allSeenIsSo_19 : decode cX6_allSeenIsSo 19 = .ok (.istore_n 2, 1) := by decide +kernel
theorem dX6_allSeenIsSo_20 : decode cX6_allSeenIsSo 20 = .ok (.iconst 0, 1) := by decide +kernel
theorem dX6_allSeenIsSo_21 : decode cX6_allSeenIsSo 21 = .ok (.istore_n 3, 1) := by decide +kernel
theorem dX6_allSeenIsSo_22 : decode cX6_allSeenIsSo 22 = .ok (.iload_n 3, 1) := by decide +kernel
theorem dX6_allSeenIsSo_23 : decode cX6_allSeenIsSo 23 = .ok (.aload_n 0, 1) := by decide +kernel
theorem dX6_allSeenIsSo_24 : decode cX6_allSeenIsSo 24 = .ok (.getfield 50, 3) := by decide +kernel
theorem dX6_allSeenIsSo_27 : decode cX6_allSeenIsSo 27 = .ok (.getfield 114, 3) := by decide +kernel
theorem dX6_allSeenIsSo_30 : decode cX6_allSeenIsSo 30 = .ok (.if_icmp .ge 78, 3) := by decide +kernel
theorem dX6_allSeenIsSo_33 : decode cX6_allSeenIsSo 33 = .ok (.aload_n 0, 1) := by decide +kernel
theorem dX6_allSeenIsSo_34 : decode cX6_allSeenIsSo 34 = .ok (.getfield 50, 3) := by decide +kernel
theorem dX6_allSeenIsSo_37 : decode cX6_allSeenIsSo 37 = .ok (.getfield 266, 3) := by decide +kernel
theorem dX6_allSeenIsSo_40 : decode cX6_allSeenIsSo 40 = .ok (.iload_n 3, 1) := by decide +kernel
theorem dX6_allSeenIsSo_41 : decode cX6_allSeenIsSo 41 = .ok (.iaload, 1) := by decide +kernel
theorem dX6_allSeenIsSo_42 : decode cX6_allSeenIsSo 42 = .ok (.istore 4, 2) := by decide +kernel
theorem dX6_allSeenIsSo_44 : decode cX6_allSeenIsSo 44 = .ok (.iload_n 2, 1) := by decide +kernel
theorem dX6_allSeenIsSo_45 : decode cX6_allSeenIsSo 45 = .ok (.ifCond .eq 38, 3) := by decide +kernel
theorem dX6_allSeenIsSo_48 : decode cX6_allSeenIsSo 48 = .ok (.aload_n 1, 1) := by decide +kernel
theorem dX6_allSeenIsSo_49 : decode cX6_allSeenIsSo 49 = .ok (.iload 4, 2) := by decide +kernel
theorem dX6_allSeenIsSo_51 : decode cX6_allSeenIsSo 51 = .ok (.invokevirtual 115, 3) := by decide +kernel
theorem dX6_allSeenIsSo_54 : decode cX6_allSeenIsSo 54 = .ok (.ifCond .eq 29, 3) := by decide +kernel
theorem dX6_allSeenIsSo_57 : decode cX6_allSeenIsSo 57 = .ok (.aload_n 0, 1) := by decide +kernel
theorem dX6_allSeenIsSo_58 : decode cX6_allSeenIsSo 58 = .ok (.getfield 29, 3) := by decide +kernel
theorem dX6_allSeenIsSo_61 : decode cX6_allSeenIsSo 61 = .ok (.getfield 124, 3) := by decide +kernel
theorem dX6_allSeenIsSo_64 : decode cX6_allSeenIsSo 64 = .ok (.iload 4, 2) := by decide +kernel
theorem dX6_allSeenIsSo_66 : decode cX6_allSeenIsSo 66 = .ok (.iaload, 1) := by decide +kernel
theorem dX6_allSeenIsSo_67 : decode cX6_allSeenIsSo 67 = .ok (.aload_n 0, 1) := by decide +kernel
theorem dX6_allSeenIsSo_68 : decode cX6_allSeenIsSo 68 = .ok (.getfield 50, 3) := by decide +kernel
theorem dX6_allSeenIsSo_71 : decode cX6_allSeenIsSo 71 = .ok (.getfield 269, 3) := by decide +kernel
theorem dX6_allSeenIsSo_74 : decode cX6_allSeenIsSo 74 = .ok (.iload_n 3, 1) := by decide +kernel
theorem dX6_allSeenIsSo_75 : decode cX6_allSeenIsSo 75 = .ok (.iaload, 1) := by decide +kernel
theorem dX6_allSeenIsSo_76 : decode cX6_allSeenIsSo 76 = .ok (.if_icmp .ne 7, 3) := by decide +kernel
theorem dX6_allSeenIsSo_79 : decode cX6_allSeenIsSo 79 = .ok (.iconst 1, 1) := by decide +kernel
theorem dX6_allSeenIsSo_80 : decode cX6_allSeenIsSo 80 = .ok (.goto 4, 3) := by decide +kernel
theorem dX6_allSeenIsSo_83 : decode cX6_allSeenIsSo 83 = .ok (.iconst 0, 1) := by decide +kernel
theorem dX6_allSeenIsSo_84 : decode cX6_allSeenIsSo 84 = .ok (.istore 5, 2) := by decide +kernel
theorem dX6_allSeenIsSo_86 : decode cX6_allSeenIsSo 86 = .ok (.iload 5, 2) := by decide +kernel
theorem dX6_allSeenIsSo_88 : decode cX6_allSeenIsSo 88 = .ok (.aload_n 0, 1) := by decide +kernel
theorem dX6_allSeenIsSo_89 : decode cX6_allSeenIsSo 89 = .ok (.getfield 50, 3) := by decide +kernel
theorem dX6_allSeenIsSo_92 : decode cX6_allSeenIsSo 92 = .ok (.getfield 270, 3) := by decide +kernel
theorem dX6_allSeenIsSo_95 : decode cX6_allSeenIsSo 95 = .ok (.iload_n 3, 1) := by decide +kernel
theorem dX6_allSeenIsSo_96 : decode cX6_allSeenIsSo 96 = .ok (.baload, 1) := by decide +kernel
theorem dX6_allSeenIsSo_97 : decode cX6_allSeenIsSo 97 = .ok (.if_icmp .eq 5, 3) := by decide +kernel
theorem dX6_allSeenIsSo_100 : decode cX6_allSeenIsSo 100 = .ok (.iconst 0, 1) := by decide +kernel
theorem dX6_allSeenIsSo_101 : decode cX6_allSeenIsSo 101 = .ok (.ireturn, 1) := by decide +kernel
theorem dX6_allSeenIsSo_102 : decode cX6_allSeenIsSo 102 = .ok (.iinc 3 1, 3) := by decide +kernel
theorem dX6_allSeenIsSo_105 : decode cX6_allSeenIsSo 105 = .ok (.goto (-83), 3) := by decide +kernel
theorem dX6_allSeenIsSo_108 : decode cX6_allSeenIsSo 108 = .ok (.iconst 1, 1) := by decide +kernel
theorem dX6_allSeenIsSo_109 : decode cX6_allSeenIsSo 109 = .ok (.ireturn, 1) := by decide +kernel
theorem dX6_chanceOfLeft_0 : decode cX6_chanceOfLeft 0 = .ok (.iconst 1, 1) := by decide +kernel
theorem dX6_chanceOfLeft_1 : decode cX6_chanceOfLeft 1 = .ok (.istore_n 3, 1) := by decide +kernel
theorem dX6_chanceOfLeft_2 : decode cX6_chanceOfLeft 2 = .ok (.iconst 0, 1) := by decide +kernel
theorem dX6_chanceOfLeft_3 : decode cX6_chanceOfLeft 3 = .ok (.istore 4, 2) := by decide +kernel
theorem dX6_chanceOfLeft_5 : decode cX6_chanceOfLeft 5 = .ok (.iload 4, 2) := by decide +kernel
theorem dX6_chanceOfLeft_7 : decode cX6_chanceOfLeft 7 = .ok (.aload_n 0, 1) := by decide +kernel
theorem dX6_chanceOfLeft_8 : decode cX6_chanceOfLeft 8 = .ok (.getfield 19, 3) := by decide +kernel
theorem dX6_chanceOfLeft_11 : decode cX6_chanceOfLeft 11 = .ok (.getfield 91, 3) := by decide +kernel
theorem dX6_chanceOfLeft_14 : decode cX6_chanceOfLeft 14 = .ok (.if_icmp .ge 30, 3) := by decide +kernel
theorem dX6_chanceOfLeft_17 : decode cX6_chanceOfLeft 17 = .ok (.iload_n 3, 1) := by decide +kernel
theorem dX6_chanceOfLeft_18 : decode cX6_chanceOfLeft 18 = .ok (.iload_n 1, 1) := by decide +kernel
theorem dX6_chanceOfLeft_19 : decode cX6_chanceOfLeft 19 = .ok (.iload 4, 2) := by decide +kernel
theorem dX6_chanceOfLeft_21 : decode cX6_chanceOfLeft 21 = .ok (.ishr, 1) := by decide +kernel
theorem dX6_chanceOfLeft_22 : decode cX6_chanceOfLeft 22 = .ok (.iconst 1, 1) := by decide +kernel
theorem dX6_chanceOfLeft_23 : decode cX6_chanceOfLeft 23 = .ok (.iand, 1) := by decide +kernel
theorem dX6_chanceOfLeft_24 : decode cX6_chanceOfLeft 24 = .ok (.iconst 1, 1) := by decide +kernel
theorem dX6_chanceOfLeft_25 : decode cX6_chanceOfLeft 25 = .ok (.if_icmp .ne 10, 3) := by decide +kernel
theorem dX6_chanceOfLeft_28 : decode cX6_chanceOfLeft 28 = .ok (.bipush 10, 2) := by decide +kernel
theorem dX6_chanceOfLeft_30 : decode cX6_chanceOfLeft 30 = .ok (.iload_n 2, 1) := by decide +kernel
theorem dX6_chanceOfLeft_31 : decode cX6_chanceOfLeft 31 = .ok (.isub, 1) := by decide +kernel
theorem dX6_chanceOfLeft_32 : decode cX6_chanceOfLeft 32 = .ok (.goto 4, 3) := by decide +kernel
theorem dX6_chanceOfLeft_35 : decode cX6_chanceOfLeft 35 = .ok (.iload_n 2, 1) := by decide +kernel
theorem dX6_chanceOfLeft_36 : decode cX6_chanceOfLeft 36 = .ok (.imul, 1) := by decide +kernel
theorem dX6_chanceOfLeft_37 : decode cX6_chanceOfLeft 37 = .ok (.istore_n 3, 1) := by decide +kernel
theorem dX6_chanceOfLeft_38 : decode cX6_chanceOfLeft 38 = .ok (.iinc 4 1, 3) := by decide +kernel
theorem dX6_chanceOfLeft_41 : decode cX6_chanceOfLeft 41 = .ok (.goto (-36), 3) := by decide +kernel
theorem dX6_chanceOfLeft_44 : decode cX6_chanceOfLeft 44 = .ok (.iload_n 3, 1) := by decide +kernel
theorem dX6_chanceOfLeft_45 : decode cX6_chanceOfLeft 45 = .ok (.ireturn, 1) := by decide +kernel
theorem dX6_partOfFraction_0 : decode cX6_partOfFraction 0 = .ok (.iload_n 0, 1) := by decide +kernel
theorem dX6_partOfFraction_1 : decode cX6_partOfFraction 1 = .ok (.istore_n 3, 1) := by decide +kernel
theorem dX6_partOfFraction_2 : decode cX6_partOfFraction 2 = .ok (.iload_n 1, 1) := by decide +kernel
theorem dX6_partOfFraction_3 : decode cX6_partOfFraction 3 = .ok (.istore 4, 2) := by decide +kernel
theorem dX6_partOfFraction_5 : decode cX6_partOfFraction 5 = .ok (.iconst 0, 1) := by decide +kernel
theorem dX6_partOfFraction_6 : decode cX6_partOfFraction 6 = .ok (.istore 5, 2) := by decide +kernel
theorem dX6_partOfFraction_8 : decode cX6_partOfFraction 8 = .ok (.iload 5, 2) := by decide +kernel
theorem dX6_partOfFraction_10 : decode cX6_partOfFraction 10 = .ok (.bipush 40, 2) := by decide +kernel
theorem dX6_partOfFraction_12 : decode cX6_partOfFraction 12 = .ok (.if_icmp .ge 27, 3) := by decide +kernel
theorem dX6_partOfFraction_15 : decode cX6_partOfFraction 15 = .ok (.iload 4, 2) := by decide +kernel
theorem dX6_partOfFraction_17 : decode cX6_partOfFraction 17 = .ok (.ifCond .eq 22, 3) := by decide +kernel
theorem dX6_partOfFraction_20 : decode cX6_partOfFraction 20 = .ok (.iload_n 3, 1) := by decide +kernel
theorem dX6_partOfFraction_21 : decode cX6_partOfFraction 21 = .ok (.iload 4, 2) := by decide +kernel
theorem dX6_partOfFraction_23 : decode cX6_partOfFraction 23 = .ok (.irem, 1) := by decide +kernel
theorem dX6_partOfFraction_24 : decode cX6_partOfFraction 24 = .ok (.istore 6, 2) := by decide +kernel
theorem dX6_partOfFraction_26 : decode cX6_partOfFraction 26 = .ok (.iload 4, 2) := by decide +kernel
theorem dX6_partOfFraction_28 : decode cX6_partOfFraction 28 = .ok (.istore_n 3, 1) := by decide +kernel
theorem dX6_partOfFraction_29 : decode cX6_partOfFraction 29 = .ok (.iload 6, 2) := by decide +kernel
theorem dX6_partOfFraction_31 : decode cX6_partOfFraction 31 = .ok (.istore 4, 2) := by decide +kernel
theorem dX6_partOfFraction_33 : decode cX6_partOfFraction 33 = .ok (.iinc 5 1, 3) := by decide +kernel
theorem dX6_partOfFraction_36 : decode cX6_partOfFraction 36 = .ok (.goto (-28), 3) := by decide +kernel
theorem dX6_partOfFraction_39 : decode cX6_partOfFraction 39 = .ok (.iload_n 2, 1) := by decide +kernel
theorem dX6_partOfFraction_40 : decode cX6_partOfFraction 40 = .ok (.ifCond .eq 7, 3) := by decide +kernel
theorem dX6_partOfFraction_43 : decode cX6_partOfFraction 43 = .ok (.iload_n 0, 1) := by decide +kernel
theorem dX6_partOfFraction_44 : decode cX6_partOfFraction 44 = .ok (.goto 4, 3) := by decide +kernel
theorem dX6_partOfFraction_47 : decode cX6_partOfFraction 47 = .ok (.iload_n 1, 1) := by decide +kernel
theorem dX6_partOfFraction_48 : decode cX6_partOfFraction 48 = .ok (.istore 5, 2) := by decide +kernel
theorem dX6_partOfFraction_50 : decode cX6_partOfFraction 50 = .ok (.iload_n 3, 1) := by decide +kernel
theorem dX6_partOfFraction_51 : decode cX6_partOfFraction 51 = .ok (.ifCond .le 10, 3) := by decide +kernel
theorem dX6_partOfFraction_54 : decode cX6_partOfFraction 54 = .ok (.iload 5, 2) := by decide +kernel
theorem dX6_partOfFraction_56 : decode cX6_partOfFraction 56 = .ok (.iload_n 3, 1) := by decide +kernel
theorem dX6_partOfFraction_57 : decode cX6_partOfFraction 57 = .ok (.idiv, 1) := by decide +kernel
theorem dX6_partOfFraction_58 : decode cX6_partOfFraction 58 = .ok (.goto 5, 3) := by decide +kernel
theorem dX6_partOfFraction_61 : decode cX6_partOfFraction 61 = .ok (.iload 5, 2) := by decide +kernel
theorem dX6_partOfFraction_63 : decode cX6_partOfFraction 63 = .ok (.ireturn, 1) := by decide +kernel
theorem dX6_spell_0 : decode cX6_spell 0 = .ok (.lload_n 1, 1) := by decide +kernel
theorem dX6_spell_1 : decode cX6_spell 1 = .ok (.lconst 0, 1) := by decide +kernel
theorem dX6_spell_2 : decode cX6_spell 2 = .ok (.lcmp, 1) := by decide +kernel
theorem dX6_spell_3 : decode cX6_spell 3 = .ok (.ifCond .lt 12, 3) := by decide +kernel
theorem dX6_spell_6 : decode cX6_spell 6 = .ok (.iload_n 3, 1) := by decide +kernel
theorem dX6_spell_7 : decode cX6_spell 7 = .ok (.aload_n 0, 1) := by decide +kernel
theorem dX6_spell_8 : decode cX6_spell 8 = .ok (.getfield 58, 3) := by decide +kernel
theorem dX6_spell_11 : decode cX6_spell 11 = .ok (.arraylength, 1) := by decide +kernel
theorem dX6_spell_12 : decode cX6_spell 12 = .ok (.if_icmp .le 5, 3) := by decide +kernel
theorem dX6_spell_15 : decode cX6_spell 15 = .ok (.iconst 0, 1) := by decide +kernel
theorem dX6_spell_16 : decode cX6_spell 16 = .ok (.ireturn, 1) := by decide +kernel
theorem dX6_spell_17 : decode cX6_spell 17 = .ok (.lload_n 1, 1) := by decide +kernel
theorem dX6_spell_18 : decode cX6_spell 18 = .ok (.lstore 4, 2) := by decide +kernel
theorem dX6_spell_20 : decode cX6_spell 20 = .ok (.iload_n 3, 1) := by decide +kernel
theorem dX6_spell_21 : decode cX6_spell 21 = .ok (.iconst 1, 1) := by decide +kernel
theorem dX6_spell_22 : decode cX6_spell 22 = .ok (.isub, 1) := by decide +kernel
theorem dX6_spell_23 : decode cX6_spell 23 = .ok (.istore 6, 2) := by decide +kernel
theorem dX6_spell_25 : decode cX6_spell 25 = .ok (.iload 6, 2) := by decide +kernel
theorem dX6_spell_27 : decode cX6_spell 27 = .ok (.ifCond .lt 31, 3) := by decide +kernel
theorem dX6_spell_30 : decode cX6_spell 30 = .ok (.aload_n 0, 1) := by decide +kernel
theorem dX6_spell_31 : decode cX6_spell 31 = .ok (.getfield 58, 3) := by decide +kernel
theorem dX6_spell_34 : decode cX6_spell 34 = .ok (.iload 6, 2) := by decide +kernel
theorem dX6_spell_36 : decode cX6_spell 36 = .ok (.lload 4, 2) := by decide +kernel
theorem dX6_spell_38 : decode cX6_spell 38 = .ok (.ldc2_w 233, 3) := by decide +kernel
theorem dX6_spell_41 : decode cX6_spell 41 = .ok (.lrem, 1) := by decide +kernel
theorem dX6_spell_42 : decode cX6_spell 42 = .ok (.l2i, 1) := by decide +kernel
theorem dX6_spell_43 : decode cX6_spell 43 = .ok (.iastore, 1) := by decide +kernel
theorem dX6_spell_44 : decode cX6_spell 44 = .ok (.lload 4, 2) := by decide +kernel
theorem dX6_spell_46 : decode cX6_spell 46 = .ok (.ldc2_w 233, 3) := by decide +kernel
theorem dX6_spell_49 : decode cX6_spell 49 = .ok (.ldiv, 1) := by decide +kernel
theorem dX6_spell_50 : decode cX6_spell 50 = .ok (.lstore 4, 2) := by decide +kernel
theorem dX6_spell_52 : decode cX6_spell 52 = .ok (.iinc 6 (-1), 3) := by decide +kernel
theorem dX6_spell_55 : decode cX6_spell 55 = .ok (.goto (-30), 3) := by decide +kernel
theorem dX6_spell_58 : decode cX6_spell 58 = .ok (.lload 4, 2) := by decide +kernel
theorem dX6_spell_60 : decode cX6_spell 60 = .ok (.lconst 0, 1) := by decide +kernel
theorem dX6_spell_61 : decode cX6_spell 61 = .ok (.lcmp, 1) := by decide +kernel
theorem dX6_spell_62 : decode cX6_spell 62 = .ok (.ifCond .ne 7, 3) := by decide +kernel
theorem dX6_spell_65 : decode cX6_spell 65 = .ok (.iconst 1, 1) := by decide +kernel
theorem dX6_spell_66 : decode cX6_spell 66 = .ok (.goto 4, 3) := by decide +kernel
theorem dX6_spell_69 : decode cX6_spell 69 = .ok (.iconst 0, 1) := by decide +kernel
theorem dX6_spell_70 : decode cX6_spell 70 = .ok (.ireturn, 1) := by decide +kernel
theorem dX6_asFigures_0 : decode cX6_asFigures 0 = .ok (.iconst 0, 1) := by decide +kernel
theorem dX6_asFigures_1 : decode cX6_asFigures 1 = .ok (.istore_n 2, 1) := by decide +kernel
theorem dX6_asFigures_2 : decode cX6_asFigures 2 = .ok (.iconst 0, 1) := by decide +kernel
theorem dX6_asFigures_3 : decode cX6_asFigures 3 = .ok (.istore_n 3, 1) := by decide +kernel
theorem dX6_asFigures_4 : decode cX6_asFigures 4 = .ok (.iload_n 3, 1) := by decide +kernel
theorem dX6_asFigures_5 : decode cX6_asFigures 5 = .ok (.iload_n 1, 1) := by decide +kernel
theorem dX6_asFigures_6 : decode cX6_asFigures 6 = .ok (.if_icmp .ge 24, 3) := by decide +kernel
theorem dX6_asFigures_9 : decode cX6_asFigures 9 = .ok (.iload_n 3, 1) := by decide +kernel
theorem dX6_asFigures_10 : decode cX6_asFigures 10 = .ok (.aload_n 0, 1) := by decide +kernel
theorem dX6_asFigures_11 : decode cX6_asFigures 11 = .ok (.arraylength, 1) := by decide +kernel
theorem dX6_asFigures_12 : decode cX6_asFigures 12 = .ok (.if_icmp .ge 18, 3) := by decide +kernel
theorem dX6_asFigures_15 : decode cX6_asFigures 15 = .ok (.iload_n 2, 1) := by decide +kernel
theorem dX6_asFigures_16 : decode cX6_asFigures 16 = .ok (.bipush 10, 2) := by decide +kernel
theorem dX6_asFigures_18 : decode cX6_asFigures 18 = .ok (.imul, 1) := by decide +kernel
theorem dX6_asFigures_19 : decode cX6_asFigures 19 = .ok (.aload_n 0, 1) := by decide +kernel
theorem dX6_asFigures_20 : decode cX6_asFigures 20 = .ok (.iload_n 3, 1) := by decide +kernel
theorem dX6_asFigures_21 : decode cX6_asFigures 21 = .ok (.iaload, 1) := by decide +kernel
theorem dX6_asFigures_22 : decode cX6_asFigures 22 = .ok (.iadd, 1) := by decide +kernel
theorem dX6_asFigures_23 : decode cX6_asFigures 23 = .ok (.istore_n 2, 1) := by decide +kernel
theorem dX6_asFigures_24 : decode cX6_asFigures 24 = .ok (.iinc 3 1, 3) := by decide +kernel
theorem dX6_asFigures_27 : decode cX6_asFigures 27 = .ok (.goto (-23), 3) := by decide +kernel
theorem dX6_asFigures_30 : decode cX6_asFigures 30 = .ok (.iload_n 2, 1) := by decide +kernel
theorem dX6_asFigures_31 : decode cX6_asFigures 31 = .ok (.ireturn, 1) := by decide +kernel
theorem dX7_init_0 : decode cX7_init 0 = .ok (.aload_n 0, 1) := by decide +kernel
theorem dX7_init_1 : decode cX7_init 1 = .ok (.invokespecial 1, 3) := by decide +kernel
theorem dX7_init_4 : decode cX7_init 4 = .ok (.aload_n 0, 1) := by decide +kernel
theorem dX7_init_5 : decode cX7_init 5 = .ok (.bipush 60, 2) := by decide +kernel
theorem dX7_init_7 : decode cX7_init 7 = .ok (.newarray .int, 2) := by decide +kernel
theorem dX7_init_9 : decode cX7_init 9 = .ok (.putfield 7, 3) := by decide +kernel
theorem dX7_init_12 : decode cX7_init 12 = .ok (.aload_n 0, 1) := by decide +kernel
theorem dX7_init_13 : decode cX7_init 13 = .ok (.iconst 4, 1) := by decide +kernel
theorem dX7_init_14 : decode cX7_init 14 = .ok (.newarray .int, 2) := by decide +kernel
theorem dX7_init_16 : decode cX7_init 16 = .ok (.putfield 13, 3) := by decide +kernel
theorem dX7_init_19 : decode cX7_init 19 = .ok (.aload_n 0, 1) := by decide +kernel
theorem dX7_init_20 : decode cX7_init 20 = .ok (.iconst 4, 1) := by decide +kernel
theorem dX7_init_21 : decode cX7_init 21 = .ok (.newarray .int, 2) := by decide +kernel
theorem dX7_init_23 : decode cX7_init 23 = .ok (.putfield 16, 3) := by decide +kernel
theorem dX7_init_26 : decode cX7_init 26 = .ok (.aload_n 0, 1) := by decide +kernel
theorem dX7_init_27 : decode cX7_init 27 = .ok (.bipush 13, 2) := by decide +kernel
theorem dX7_init_29 : decode cX7_init 29 = .ok (.newarray .int, 2) := by decide +kernel
theorem dX7_init_31 : decode cX7_init 31 = .ok (.putfield 19, 3) := by decide +kernel
theorem dX7_init_34 : decode cX7_init 34 = .ok (.aload_n 0, 1) := by decide +kernel
theorem dX7_init_35 : decode cX7_init 35 = .ok (.bipush 13, 2) := by decide +kernel
theorem dX7_init_37 : decode cX7_init 37 = .ok (.newarray .int, 2) := by decide +kernel
theorem dX7_init_39 : decode cX7_init 39 = .ok (.putfield 22, 3) := by decide +kernel
theorem dX7_init_42 : decode cX7_init 42 = .ok (.aload_n 0, 1) := by decide +kernel
theorem dX7_init_43 : decode cX7_init 43 = .ok (.sipush 182, 3) := by decide +kernel
theorem dX7_init_46 : decode cX7_init 46 = .ok (.newarray .int, 2) := by decide +kernel
theorem dX7_init_48 : decode cX7_init 48 = .ok (.putfield 25, 3) := by decide +kernel
theorem dX7_init_51 : decode cX7_init 51 = .ok (.aload_n 0, 1) := by decide +kernel
theorem dX7_init_52 : decode cX7_init 52 = .ok (.bipush 26, 2) := by decide +kernel
theorem dX7_init_54 : decode cX7_init 54 = .ok (.newarray .int, 2) := by decide +kernel
theorem dX7_init_56 : decode cX7_init 56 = .ok (.putfield 28, 3) := by decide +kernel
theorem dX7_init_59 : decode cX7_init 59 = .ok (.aload_n 0, 1) := by decide +kernel
theorem dX7_init_60 : decode cX7_init 60 = .ok (.iconst 2, 1) := by decide +kernel
theorem dX7_init_61 : decode cX7_init 61 = .ok (.newarray .boolean, 2) := by decide +kernel
theorem dX7_init_63 : decode cX7_init 63 = .ok (.putfield 31, 3) := by decide +kernel
theorem dX7_init_66 : decode cX7_init 66 = .ok (.aload_n 0, 1) := by decide +kernel
theorem dX7_init_67 : decode cX7_init 67 = .ok (.iconst 4, 1) := by decide +kernel
theorem dX7_init_68 : decode cX7_init 68 = .ok (.newarray .int, 2) := by decide +kernel
theorem dX7_init_70 : decode cX7_init 70 = .ok (.putfield 35, 3) := by decide +kernel
theorem dX7_init_73 : decode cX7_init 73 = .ok (.aload_n 0, 1) := by decide +kernel
theorem dX7_init_74 : decode cX7_init 74 = .ok (.iconst 4, 1) := by decide +kernel
theorem dX7_init_75 : decode cX7_init 75 = .ok (.newarray .int, 2) := by decide +kernel
theorem dX7_init_77 : decode cX7_init 77 = .ok (.putfield 38, 3) := by decide +kernel
theorem dX7_init_80 : decode cX7_init 80 = .ok (.aload_n 0, 1) := by decide +kernel
theorem dX7_init_81 : decode cX7_init 81 = .ok (.bipush 13, 2) := by decide +kernel
theorem dX7_init_83 : decode cX7_init 83 = .ok (.newarray .int, 2) := by decide +kernel
theorem dX7_init_85 : decode cX7_init 85 = .ok (.putfield 41, 3) := by decide +kernel
theorem dX7_init_88 : decode cX7_init 88 = .ok (.aload_n 0, 1) := by decide +kernel
theorem dX7_init_89 : decode cX7_init 89 = .ok (.bipush 6, 2) := by decide +kernel
theorem dX7_init_91 : decode cX7_init 91 = .ok (.newarray .int, 2) := by decide +kernel
theorem dX7_init_93 : decode cX7_init 93 = .ok (.putfield 44, 3) := by decide +kernel
theorem dX7_init_96 : decode cX7_init 96 = .ok (.aload_n 0, 1) := by decide +kernel
theorem dX7_init_97 : decode cX7_init 97 = .ok (.bipush 6, 2) := by decide +kernel
theorem dX7_init_99 : decode cX7_init 99 = .ok (.newarray .int, 2) := by decide +kernel
theorem dX7_init_101 : decode cX7_init 101 = .ok (.putfield 47, 3) := by decide +kernel
theorem dX7_init_104 : decode cX7_init 104 = .ok (.aload_n 0, 1) := by decide +kernel
theorem dX7_init_105 : decode cX7_init 105 = .ok (.bipush 6, 2) := by decide +kernel
theorem dX7_init_107 : decode cX7_init 107 = .ok (.newarray .int, 2) := by decide +kernel
theorem dX7_init_109 : decode cX7_init 109 = .ok (.putfield 50, 3) := by decide +kernel
theorem dX7_init_112 : decode cX7_init 112 = .ok (.aload_n 0, 1) := by decide +kernel
theorem dX7_init_113 : decode cX7_init 113 = .ok (.iconst 4, 1) := by decide +kernel
theorem dX7_init_114 : decode cX7_init 114 = .ok (.newarray .int, 2) := by decide +kernel
theorem dX7_init_116 : decode cX7_init 116 = .ok (.putfield 53, 3) := by decide +kernel
theorem dX7_init_119 : decode cX7_init 119 = .ok (.aload_n 0, 1) := by decide +kernel
theorem dX7_init_120 : decode cX7_init 120 = .ok (.bipush 16, 2) := by decide +kernel
theorem dX7_init_122 : decode cX7_init 122 = .ok (.newarray .int, 2) := by decide +kernel
theorem dX7_init_124 : decode cX7_init 124 = .ok (.putfield 56, 3) := by decide +kernel
theorem dX7_init_127 : decode cX7_init 127 = .ok (.aload_n 0, 1) := by decide +kernel
theorem dX7_init_128 : decode cX7_init 128 = .ok (.getfield 19, 3) := by decide +kernel
theorem dX7_init_131 : decode cX7_init 131 = .ok (.bipush 12, 2) := by decide +kernel
theorem dX7_init_133 : decode cX7_init 133 = .ok (.iconst 1, 1) := by decide +kernel
theorem dX7_init_134 : decode cX7_init 134 = .ok (.iastore, 1) := by decide +kernel
theorem dX7_init_135 : decode cX7_init 135 = .ok (.return_, 1) := by decide +kernel
theorem dX7_in_0 : decode cX7_in 0 = .ok (.lload_n 0, 1) := by decide +kernel
theorem dX7_in_1 : decode cX7_in 1 = .ok (.lload_n 2, 1) := by decide +kernel
theorem dX7_in_2 : decode cX7_in 2 = .ok (.lcmp, 1) := by decide +kernel
theorem dX7_in_3 : decode cX7_in 3 = .ok (.ifCond .lt 14, 3) := by decide +kernel
theorem dX7_in_6 : decode cX7_in 6 = .ok (.lload_n 0, 1) := by decide +kernel
theorem dX7_in_7 : decode cX7_in 7 = .ok (.lload 4, 2) := by decide +kernel
theorem dX7_in_9 : decode cX7_in 9 = .ok (.lcmp, 1) := by decide +kernel
theorem dX7_in_10 : decode cX7_in 10 = .ok (.ifCond .gt 7, 3) := by decide +kernel
theorem dX7_in_13 : decode cX7_in 13 = .ok (.iconst 1, 1) := by decide +kernel
theorem dX7_in_14 : decode cX7_in 14 = .ok (.goto 4, 3) := by decide +kernel
theorem dX7_in_17 : decode cX7_in 17 = .ok (.iconst 0, 1) := by decide +kernel
theorem dX7_in_18 : decode cX7_in 18 = .ok (.ireturn, 1) := by decide +kernel
theorem dX7_has_0 : decode cX7_has 0 = .ok (.iload_n 0, 1) := by decide +kernel
theorem dX7_has_1 : decode cX7_has 1 = .ok (.iload_n 1, 1) := by decide +kernel
theorem dX7_has_2 : decode cX7_has 2 = .ok (.ishr, 1) := by decide +kernel
theorem dX7_has_3 : decode cX7_has 3 = .ok (.iconst 1, 1) := by decide +kernel
theorem dX7_has_4 : decode cX7_has 4 = .ok (.iand, 1) := by decide +kernel
theorem dX7_has_5 : decode cX7_has 5 = .ok (.iconst 1, 1) := by decide +kernel
theorem dX7_has_6 : decode cX7_has 6 = .ok (.if_icmp .ne 7, 3) := by decide +kernel
theorem dX7_has_9 : decode cX7_has 9 = .ok (.iconst 1, 1) := by decide +kernel
theorem dX7_has_10 : decode cX7_has 10 = .ok (.goto 4, 3) := by decide +kernel
theorem dX7_has_13 : decode cX7_has 13 = .ok (.iconst 0, 1) := by decide +kernel
theorem dX7_has_14 : decode cX7_has 14 = .ok (.ireturn, 1) := by decide +kernel
theorem dX7_power_0 : decode cX7_power 0 = .ok (.iconst 1, 1) := by decide +kernel
theorem dX7_power_1 : decode cX7_power 1 = .ok (.istore_n 2, 1) := by decide +kernel
theorem dX7_power_2 : decode cX7_power 2 = .ok (.iconst 0, 1) := by decide +kernel
theorem dX7_power_3 : decode cX7_power 3 = .ok (.istore_n 3, 1) := by decide +kernel
theorem dX7_power_4 : decode cX7_power 4 = .ok (.iload_n 3, 1) := by decide +kernel
theorem dX7_power_5 : decode cX7_power 5 = .ok (.iload_n 1, 1) := by decide +kernel
theorem dX7_power_6 : decode cX7_power 6 = .ok (.if_icmp .ge 13, 3) := by decide +kernel
theorem dX7_power_9 : decode cX7_power 9 = .ok (.iload_n 2, 1) := by decide +kernel
theorem dX7_power_10 : decode cX7_power 10 = .ok (.iload_n 0, 1) := by decide +kernel
theorem dX7_power_11 : decode cX7_power 11 = .ok (.imul, 1) := by decide +kernel
theorem dX7_power_12 : decode cX7_power 12 = .ok (.istore_n 2, 1) := by decide +kernel
theorem dX7_power_13 : decode cX7_power 13 = .ok (.iinc 3 1, 3) := by decide +kernel
theorem dX7_power_16 : decode cX7_power 16 = .ok (.goto (-12), 3) := by decide +kernel
theorem dX7_power_19 : decode cX7_power 19 = .ok (.iload_n 2, 1) := by decide +kernel
theorem dX7_power_20 : decode cX7_power 20 = .ok (.ireturn, 1) := by decide +kernel
theorem dX7_divisor_0 : decode cX7_divisor 0 = .ok (.iload_n 0, 1) := by decide +kernel
theorem dX7_divisor_1 : decode cX7_divisor 1 = .ok (.ifCond .ge 8, 3) := by decide +kernel
theorem dX7_divisor_4 : decode cX7_divisor 4 = .ok (.iload_n 0, 1) := by decide +kernel
theorem dX7_divisor_5 : decode cX7_divisor 5 = .ok (.ineg, 1) := by decide +kernel
theorem dX7_divisor_6 : decode cX7_divisor 6 = .ok (.goto 4, 3) := by decide +kernel
theorem dX7_divisor_9 : decode cX7_divisor 9 = .ok (.iload_n 0, 1) := by decide +kernel
theorem dX7_divisor_10 : decode cX7_divisor 10 = .ok (.istore_n 2, 1) := by decide +kernel
theorem dX7_divisor_11 : decode cX7_divisor 11 = .ok (.iload_n 1, 1) := by decide +kernel
theorem dX7_divisor_12 : decode cX7_divisor 12 = .ok (.istore_n 3, 1) := by decide +kernel
theorem dX7_divisor_13 : decode cX7_divisor 13 = .ok (.iload_n 3, 1) := by decide +kernel
theorem dX7_divisor_14 : decode cX7_divisor 14 = .ok (.ifCond .eq 16, 3) := by decide +kernel
theorem dX7_divisor_17 : decode cX7_divisor 17 = .ok (.iload_n 2, 1) := by decide +kernel
theorem dX7_divisor_18 : decode cX7_divisor 18 = .ok (.iload_n 3, 1) := by decide +kernel
theorem dX7_divisor_19 : decode cX7_divisor 19 = .ok (.irem, 1) := by decide +kernel
theorem dX7_divisor_20 : decode cX7_divisor 20 = .ok (.istore 4, 2) := by decide +kernel
theorem dX7_divisor_22 : decode cX7_divisor 22 = .ok (.iload_n 3, 1) := by decide +kernel
theorem dX7_divisor_23 : decode cX7_divisor 23 = .ok (.istore_n 2, 1) := by decide +kernel
theorem dX7_divisor_24 : decode cX7_divisor 24 = .ok (.iload 4, 2) := by decide +kernel
theorem dX7_divisor_26 : decode cX7_divisor 26 = .ok (.istore_n 3, 1) := by decide +kernel
theorem dX7_divisor_27 : decode cX7_divisor 27 = .ok (.goto (-14), 3) := by decide +kernel
theorem dX7_divisor_30 : decode cX7_divisor 30 = .ok (.iload_n 2, 1) := by decide +kernel
theorem dX7_divisor_31 : decode cX7_divisor 31 = .ok (.ireturn, 1) := by decide +kernel
theorem dX7_fraction_0 : decode cX7_fraction 0 = .ok (.iload_n 0, 1) := by decide +kernel
theorem dX7_fraction_1 : decode cX7_fraction 1 = .ok (.iload_n 1, 1) := by decide +kernel
theorem dX7_fraction_2 : decode cX7_fraction 2 = .ok (.invokestatic 59, 3) := by decide +kernel
theorem dX7_fraction_5 : decode cX7_fraction 5 = .ok (.istore_n 3, 1) := by decide +kernel
theorem dX7_fraction_6 : decode cX7_fraction 6 = .ok (.iload_n 2, 1) := by decide +kernel
theorem dX7_fraction_7 : decode cX7_fraction 7 = .ok (.ifCond .eq 9, 3) := by decide +kernel
theorem dX7_fraction_10 : decode cX7_fraction 10 = .ok (.iload_n 0, 1) := by decide +kernel
theorem dX7_fraction_11 : decode cX7_fraction 11 = .ok (.iload_n 3, 1) := by decide +kernel
theorem dX7_fraction_12 : decode cX7_fraction 12 = .ok (.idiv, 1) := by decide +kernel
theorem dX7_fraction_13 : decode cX7_fraction 13 = .ok (.goto 6, 3) := by decide +kernel
theorem dX7_fraction_16 : decode cX7_fraction 16 = .ok (.iload_n 1, 1) := by decide +kernel
theorem dX7_fraction_17 : decode cX7_fraction 17 = .ok (.iload_n 3, 1) := by decide +kernel
theorem dX7_fraction_18 : decode cX7_fraction 18 = .ok (.idiv, 1) := by decide +kernel
theorem dX7_fraction_19 : decode cX7_fraction 19 = .ok (.ireturn, 1) := by decide +kernel
theorem dX7_isField_0 : decode cX7_isField 0 = .ok (.iload_n 1, 1) := by decide +kernel
theorem dX7_isField_1 : decode cX7_isField 1 = .ok (.i2l, 1) := by decide +kernel
theorem dX7_isField_2 : decode cX7_isField 2 = .ok (.lconst 0, 1) := by decide +kernel
theorem dX7_isField_3 : decode cX7_isField 3 = .ok (.aload_n 0, 1) := by decide +kernel
theorem dX7_isField_4 : decode cX7_isField 4 = .ok (.getfield 63, 3) := by decide +kernel
theorem dX7_isField_7 : decode cX7_isField 7 = .ok (.iconst 1, 1) := by decide +kernel
theorem dX7_isField_8 : decode cX7_isField 8 = .ok (.isub, 1) := by decide +kernel
theorem dX7_isField_9 : decode cX7_isField 9 = .ok (.i2l, 1) := by decide +kernel
theorem dX7_isField_10 : decode cX7_isField 10 = .ok (.invokestatic 67, 3) := by decide +kernel
theorem dX7_isField_13 : decode cX7_isField 13 = .ok (.ireturn, 1) := by decide +kernel
theorem dX7_isMaker_0 : decode cX7_isMaker 0 = .ok (.iload_n 1, 1) := by decide +kernel
theorem dX7_isMaker_1 : decode cX7_isMaker 1 = .ok (.i2l, 1) := by decide +kernel
theorem dX7_isMaker_2 : decode cX7_isMaker 2 = .ok (.lconst 0, 1) := by decide +kernel
theorem dX7_isMaker_3 : decode cX7_isMaker 3 = .ok (.aload_n 0, 1) := by decide +kernel
theorem dX7_isMaker_4 : decode cX7_isMaker 4 = .ok (.getfield 71, 3) := by decide +kernel
theorem dX7_isMaker_7 : decode cX7_isMaker 7 = .ok (.iconst 1, 1) := by decide +kernel
theorem dX7_isMaker_8 : decode cX7_isMaker 8 = .ok (.isub, 1) := by decide +kernel
theorem dX7_isMaker_9 : decode cX7_isMaker 9 = .ok (.i2l, 1) := by decide +kernel
theorem dX7_isMaker_10 : decode cX7_isMaker 10 = .ok (.invokestatic 67, 3) := by decide +kernel
theorem dX7_isMaker_13 : decode cX7_isMaker 13 = .ok (.ireturn, 1) := by decide +kernel
theorem dX7_allMakers_0 : decode cX7_allMakers 0 = .ok (.iconst 1, 1) := by decide +kernel
theorem dX7_allMakers_1 : decode cX7_allMakers 1 = .ok (.aload_n 0, 1) := by decide +kernel
theorem dX7_allMakers_2 : decode cX7_allMakers 2 = .ok (.getfield 71, 3) := by decide +kernel
theorem dX7_allMakers_5 : decode cX7_allMakers 5 = .ok (.ishl, 1) := by decide +kernel
theorem dX7_allMakers_6 : decode cX7_allMakers 6 = .ok (.iconst 1, 1) := by decide +kernel
theorem dX7_allMakers_7 : decode cX7_allMakers 7 = .ok (.isub, 1) := by decide +kernel
theorem dX7_allMakers_8 : decode cX7_allMakers 8 = .ok (.ireturn, 1) := by decide +kernel
theorem dX7_write_0 : decode cX7_write 0 = .ok (.iload_n 1, 1) := by decide +kernel
theorem dX7_write_1 : decode cX7_write 1 = .ok (.i2l, 1) := by decide +kernel
theorem dX7_write_2 : decode cX7_write 2 = .ok (.lconst 0, 1) := by decide +kernel
theorem dX7_write_3 : decode cX7_write 3 = .ok (.ldc2_w 74, 3) := by decide +kernel
theorem dX7_write_6 : decode cX7_write 6 = .ok (.invokestatic 67, 3) := by decide +kernel
theorem dX7_write_9 : decode cX7_write 9 = .ok (.ifCond .ne 6, 3) := by decide +kernel
theorem dX7_write_12 : decode cX7_write 12 = .ok (.bipush (-2), 2) := by decide +kernel
theorem dX7_write_14 : decode cX7_write 14 = .ok (.ireturn, 1) := by decide +kernel
theorem dX7_write_15 : decode cX7_write 15 = .ok (.aload_n 0, 1) := by decide +kernel
theorem dX7_write_16 : decode cX7_write 16 = .ok (.getfield 76, 3) := by decide +kernel
theorem dX7_write_19 : decode cX7_write 19 = .ok (.bipush 60, 2) := by decide +kernel
theorem dX7_write_21 : decode cX7_write 21 = .ok (.if_icmp .ne 6, 3) := by decide +kernel
theorem dX7_write_24 : decode cX7_write 24 = .ok (.bipush (-4), 2) := by decide +kernel
theorem dX7_write_26 : decode cX7_write 26 = .ok (.ireturn, 1) := by decide +kernel
theorem dX7_write_27 : decode cX7_write 27 = .ok (.aload_n 0, 1) := by decide +kernel
theorem dX7_write_28 : decode cX7_write 28 = .ok (.getfield 7, 3) := by decide +kernel
theorem dX7_write_31 : decode cX7_write 31 = .ok (.aload_n 0, 1) := by decide +kernel
theorem dX7_write_32 : decode cX7_write 32 = .ok (.getfield 76, 3) := by decide +kernel
theorem dX7_write_35 : decode cX7_write 35 = .ok (.iload_n 1, 1) := by decide +kernel
theorem dX7_write_36 : decode cX7_write 36 = .ok (.iastore, 1) := by decide +kernel
theorem dX7_write_37 : decode cX7_write 37 = .ok (.aload_n 0, 1) := by decide +kernel
theorem dX7_write_38 : decode cX7_write 38 = .ok (.dup, 1) := by decide +kernel
theorem dX7_write_39 : decode cX7_write 39 = .ok (.getfield 76, 3) := by decide +kernel
theorem dX7_write_42 : decode cX7_write 42 = .ok (.iconst 1, 1) := by decide +kernel
theorem dX7_write_43 : decode cX7_write 43 = .ok (.iadd, 1) := by decide +kernel
theorem dX7_write_44 : decode cX7_write 44 = .ok (.putfield 76, 3) := by decide +kernel
theorem dX7_write_47 : decode cX7_write 47 = .ok (.aload_n 0, 1) := by decide +kernel
theorem dX7_write_48 : decode cX7_write 48 = .ok (.getfield 76, 3) := by decide +kernel
theorem dX7_write_51 : decode cX7_write 51 = .ok (.ireturn, 1) := by decide +kernel
theorem dX7_wipe_0 : decode cX7_wipe 0 = .ok (.aload_n 0, 1) := by decide +kernel
theorem dX7_wipe_1 : decode cX7_wipe 1 = .ok (.getfield 76, 3) := by decide +kernel
theorem dX7_wipe_4 : decode cX7_wipe 4 = .ok (.istore_n 1, 1) := by decide +kernel
theorem dX7_wipe_5 : decode cX7_wipe 5 = .ok (.aload_n 0, 1) := by decide +kernel
theorem dX7_wipe_6 : decode cX7_wipe 6 = .ok (.iconst 0, 1) := by decide +kernel
theorem dX7_wipe_7 : decode cX7_wipe 7 = .ok (.putfield 76, 3) := by decide +kernel
theorem dX7_wipe_10 : decode cX7_wipe 10 = .ok (.iload_n 1, 1) := by decide +kernel
theorem dX7_wipe_11 : decode cX7_wipe 11 = .ok (.ireturn, 1) := by decide +kernel
theorem dX7_weatherOf_0 : decode cX7_weatherOf 0 = .ok (.iload_n 0, 1) := by decide +kernel
theorem dX7_weatherOf_1 : decode cX7_weatherOf 1 = .ok (.bipush 114, 2) := by decide +kernel
theorem dX7_weatherOf_3 : decode cX7_weatherOf 3 = .ok (.if_icmp .ne 7, 3) := by decide +kernel
theorem dX7_weatherOf_6 : decode cX7_weatherOf 6 = .ok (.iconst 0, 1) := by decide +kernel
theorem dX7_weatherOf_7 : decode cX7_weatherOf 7 = .ok (.goto 25, 3) := by decide +kernel
theorem dX7_weatherOf_10 : decode cX7_weatherOf 10 = .ok (.iload_n 0, 1) := by decide +kernel
theorem dX7_weatherOf_11 : decode cX7_weatherOf 11 = .ok (.bipush 119, 2) := by decide +kernel
theorem dX7_weatherOf_13 : decode cX7_weatherOf 13 = .ok (.if_icmp .ne 7, 3) := by decide +kernel
theorem dX7_weatherOf_16 : decode cX7_weatherOf 16 = .ok (.iconst 1, 1) := by decide +kernel
theorem dX7_weatherOf_17 : decode cX7_weatherOf 17 = .ok (.goto 15, 3) := by decide +kernel
theorem dX7_weatherOf_20 : decode cX7_weatherOf 20 = .ok (.iload_n 0, 1) := by decide +kernel
theorem dX7_weatherOf_21 : decode cX7_weatherOf 21 = .ok (.bipush 115, 2) := by decide +kernel
theorem dX7_weatherOf_23 : decode cX7_weatherOf 23 = .ok (.if_icmp .ne 7, 3) := by decide +kernel
theorem dX7_weatherOf_26 : decode cX7_weatherOf 26 = .ok (.iconst 2, 1) := by decide +kernel
theorem dX7_weatherOf_27 : decode cX7_weatherOf 27 = .ok (.goto 5, 3) := by decide +kernel
theorem dX7_weatherOf_30 : decode cX7_weatherOf 30 = .ok (.bipush (-9), 2) := by decide +kernel
theorem dX7_weatherOf_32 : decode cX7_weatherOf 32 = .ok (.ireturn, 1) := by decide +kernel
theorem dX7_take_0 : decode cX7_take 0 = .ok (.iload_n 1, 1) := by decide +kernel
theorem dX7_take_1 : decode cX7_take 1 = .ok (.invokestatic 79, 3) := by decide +kernel
theorem dX7_take_4 : decode cX7_take 4 = .ok (.istore_n 2, 1) := by decide +kernel
theorem dX7_take_5 : decode cX7_take 5 = .ok (.iload_n 1, 1) := by decide +kernel
theorem dX7_take_6 : decode cX7_take 6 = .ok (.i2l, 1) := by decide +kernel
theorem dX7_take_7 : decode cX7_take 7 = .ok (.ldc2_w 83, 3) := by decide +kernel
theorem dX7_take_10 : decode cX7_take 10 = .ok (.ldc2_w 85, 3) := by decide +kernel
theorem dX7_take_13 : decode cX7_take 13 = .ok (.invokestatic 67, 3) := by decide +kernel
theorem dX7_take_16 : decode cX7_take 16 = .ok (.ifCond .eq 10, 3) := by decide +kernel
theorem dX7_take_19 : decode cX7_take 19 = .ok (.iload_n 1, 1) := by decide +kernel
theorem dX7_take_20 : decode cX7_take 20 = .ok (.bipush 48, 2) := by decide +kernel
theorem dX7_take_22 : decode cX7_take 22 = .ok (.isub, 1) := by decide +kernel
theorem dX7_take_23 : decode cX7_take 23 = .ok (.goto 5, 3) := by decide +kernel
theorem dX7_take_26 : decode cX7_take 26 = .ok (.bipush (-9), 2) := by decide +kernel
theorem dX7_take_28 : decode cX7_take 28 = .ok (.istore_n 3, 1) := by decide +kernel
theorem dX7_take_29 : decode cX7_take 29 = .ok (.aload_n 0, 1) := by decide +kernel
theorem dX7_take_30 : decode cX7_take 30 = .ok (.getfield 87, 3) := by decide +kernel
theorem dX7_take_33 : decode cX7_take 33 = .ok (.tableswitch 145 0 4 #[35, 41, 70, 97, 138], 35) := by decide +kernel
theorem dX7_take_68 : decode cX7_take 68 = .ok (.aload_n 0, 1) := by decide +kernel
theorem dX7_take_69 : decode cX7_take 69 = .ok (.iload_n 1, 1) := by decide +kernel
theorem dX7_take_70 : decode cX7_take 70 = .ok (.invokevirtual 90, 3) := by decide +kernel
theorem dX7_take_73 : decode cX7_take 73 = .ok (.ireturn, 1) := by decide +kernel
theorem dX7_take_74 : decode cX7_take 74 = .ok (.aload_n 0, 1) := by decide +kernel
theorem dX7_take_75 : decode cX7_take 75 = .ok (.getfield 35, 3) := by decide +kernel
theorem dX7_take_78 : decode cX7_take 78 = .ok (.aload_n 0, 1) := by decide +kernel
theorem dX7_take_79 : decode cX7_take 79 = .ok (.getfield 94, 3) := by decide +kernel
theorem dX7_take_82 : decode cX7_take 82 = .ok (.iconst 1, 1) := by decide +kernel
theorem dX7_take_83 : decode cX7_take 83 = .ok (.isub, 1) := by decide +kernel
theorem dX7_take_84 : decode cX7_take 84 = .ok (.iload_n 2, 1) := by decide +kernel
theorem dX7_take_85 : decode cX7_take 85 = .ok (.iastore, 1) := by decide +kernel
theorem dX7_take_86 : decode cX7_take 86 = .ok (.aload_n 0, 1) := by decide +kernel
theorem dX7_take_87 : decode cX7_take 87 = .ok (.iconst 2, 1) := by decide +kernel
theorem dX7_take_88 : decode cX7_take 88 = .ok (.putfield 87, 3) := by decide +kernel
theorem dX7_take_91 : decode cX7_take 91 = .ok (.iload_n 2, 1) := by decide +kernel
theorem dX7_take_92 : decode cX7_take 92 = .ok (.bipush (-9), 2) := by decide +kernel
theorem dX7_take_94 : decode cX7_take 94 = .ok (.if_icmp .eq 7, 3) := by decide +kernel
theorem dX7_take_97 : decode cX7_take 97 = .ok (.iconst 1, 1) := by decide +kernel
theorem dX7_take_98 : decode cX7_take 98 = .ok (.goto 4, 3) := by decide +kernel
theorem dX7_take_101 : decode cX7_take 101 = .ok (.iconst 0, 1) := by decide +kernel
theorem dX7_take_102 : decode cX7_take 102 = .ok (.ireturn, 1) := by decide +kernel
theorem dX7_take_103 : decode cX7_take 103 = .ok (.aload_n 0, 1) := by decide +kernel
theorem dX7_take_104 : decode cX7_take 104 = .ok (.getfield 41, 3) := by decide +kernel
theorem dX7_take_107 : decode cX7_take 107 = .ok (.aload_n 0, 1) := by decide +kernel
theorem dX7_take_108 : decode cX7_take 108 = .ok (.getfield 94, 3) := by decide +kernel
theorem dX7_take_111 : decode cX7_take 111 = .ok (.iconst 1, 1) := by decide +kernel
theorem dX7_take_112 : decode cX7_take 112 = .ok (.isub, 1) := by decide +kernel
theorem dX7_take_113 : decode cX7_take 113 = .ok (.iload_n 3, 1) := by decide +kernel
theorem dX7_take_114 : decode cX7_take 114 = .ok (.iastore, 1) := by decide +kernel
theorem dX7_take_115 : decode cX7_take 115 = .ok (.aload_n 0, 1) := by decide +kernel
theorem dX7_take_116 : decode cX7_take 116 = .ok (.iconst 0, 1) := by decide +kernel
theorem dX7_take_117 : decode cX7_take 117 = .ok (.putfield 87, 3) := by decide +kernel
theorem dX7_take_120 : decode cX7_take 120 = .ok (.iload_n 3, 1) := by decide +kernel
theorem dX7_take_121 : decode cX7_take 121 = .ok (.i2l, 1) := by decide +kernel
theorem dX7_take_122 : decode cX7_take 122 = .ok (.lconst 1, 1) := by decide +kernel
theorem dX7_take_123 : decode cX7_take 123 = .ok (.ldc2_w 97, 3) := by decide +kernel
theorem dX7_take_126 : decode cX7_take 126 = .ok (.invokestatic 67, 3) := by decide +kernel
theorem dX7_take_129 : decode cX7_take 129 = .ok (.ireturn, 1) := by decide +kernel
theorem dX7_take_130 : decode cX7_take 130 = .ok (.aload_n 0, 1) := by decide +kernel
theorem dX7_take_131 : decode cX7_take 131 = .ok (.getfield 38, 3) := by decide +kernel
theorem dX7_take_134 : decode cX7_take 134 = .ok (.aload_n 0, 1) := by decide +kernel
theorem dX7_take_135 : decode cX7_take 135 = .ok (.getfield 99, 3) := by decide +kernel
theorem dX7_take_138 : decode cX7_take 138 = .ok (.iconst 1, 1) := by decide +kernel
theorem dX7_take_139 : decode cX7_take 139 = .ok (.isub, 1) := by decide +kernel
theorem dX7_take_140 : decode cX7_take 140 = .ok (.iload_n 2, 1) := by decide +kernel
theorem dX7_take_141 : decode cX7_take 141 = .ok (.bipush (-9), 2) := by decide +kernel
theorem dX7_take_143 : decode cX7_take 143 = .ok (.if_icmp .ne 7, 3) := by decide +kernel
theorem dX7_take_146 : decode cX7_take 146 = .ok (.iconst 0, 1) := by decide +kernel
theorem dX7_take_147 : decode cX7_take 147 = .ok (.goto 6, 3) := by decide +kernel
theorem dX7_take_150 : decode cX7_take 150 = .ok (.iconst 1, 1) := by decide +kernel
theorem dX7_take_151 : decode cX7_take 151 = .ok (.iload_n 2, 1) := by decide +kernel
theorem dX7_take_152 : decode cX7_take 152 = .ok (.ishl, 1) := by decide +kernel
theorem dX7_take_153 : decode cX7_take 153 = .ok (.iastore, 1) := by decide +kernel
theorem dX7_take_154 : decode cX7_take 154 = .ok (.aload_n 0, 1) := by decide +kernel
theorem dX7_take_155 : decode cX7_take 155 = .ok (.iconst 4, 1) := by decide +kernel
theorem dX7_take_156 : decode cX7_take 156 = .ok (.putfield 87, 3) := by decide +kernel
theorem dX7_take_159 : decode cX7_take 159 = .ok (.iload_n 2, 1) := by decide +kernel
theorem dX7_take_160 : decode cX7_take 160 = .ok (.bipush (-9), 2) := by decide +kernel
theorem dX7_take_162 : decode cX7_take 162 = .ok (.if_icmp .eq 7, 3) := by decide +kernel
theorem dX7_take_165 : decode cX7_take 165 = .ok (.iconst 1, 1) := by decide +kernel
theorem dX7_take_166 : decode cX7_take 166 = .ok (.goto 4, 3) := by decide +kernel
theorem dX7_take_169 : decode cX7_take 169 = .ok (.iconst 0, 1) := by decide +kernel
theorem dX7_take_170 : decode cX7_take 170 = .ok (.ireturn, 1) := by decide +kernel
theorem dX7_take_171 : decode cX7_take 171 = .ok (.aload_n 0, 1) := by decide +kernel
theorem dX7_take_172 : decode cX7_take 172 = .ok (.iload_n 2, 1) := by decide +kernel
theorem dX7_take_173 : decode cX7_take 173 = .ok (.iload_n 3, 1) := by decide +kernel
theorem dX7_take_174 : decode cX7_take 174 = .ok (.invokevirtual 102, 3) := by decide +kernel
theorem dX7_take_177 : decode cX7_take 177 = .ok (.ireturn, 1) := by decide +kernel
theorem dX7_take_178 : decode cX7_take 178 = .ok (.aload_n 0, 1) := by decide +kernel
theorem dX7_take_179 : decode cX7_take 179 = .ok (.getfield 41, 3) := by decide +kernel
theorem dX7_take_182 : decode cX7_take 182 = .ok (.bipush 8, 2) := by decide +kernel
theorem dX7_take_184 : decode cX7_take 184 = .ok (.aload_n 0, 1) := by decide +kernel
theorem dX7_take_185 : decode cX7_take 185 = .ok (.getfield 99, 3) := by decide +kernel
theorem dX7_take_188 : decode cX7_take 188 = .ok (.iadd, 1) := by decide +kernel
theorem dX7_take_189 : decode cX7_take 189 = .ok (.iconst 1, 1) := by decide +kernel
theorem dX7_take_190 : decode cX7_take 190 = .ok (.isub, 1) := by decide +kernel
theorem dX7_take_191 : decode cX7_take 191 = .ok (.iload_n 3, 1) := by decide +kernel
theorem dX7_take_192 : decode cX7_take 192 = .ok (.iastore, 1) := by decide +kernel
theorem dX7_take_193 : decode cX7_take 193 = .ok (.aload_n 0, 1) := by decide +kernel
theorem dX7_take_194 : decode cX7_take 194 = .ok (.iconst 0, 1) := by decide +kernel
theorem dX7_take_195 : decode cX7_take 195 = .ok (.putfield 87, 3) := by decide +kernel
theorem dX7_take_198 : decode cX7_take 198 = .ok (.iload_n 3, 1) := by decide +kernel
theorem dX7_take_199 : decode cX7_take 199 = .ok (.bipush (-9), 2) := by decide +kernel
theorem dX7_take_201 : decode cX7_take 201 = .ok (.if_icmp .eq 7, 3) := by decide +kernel
theorem dX7_take_204 : decode cX7_take 204 = .ok (.iconst 1, 1) := by decide +kernel
theorem dX7_take_205 : decode cX7_take 205 = .ok (.goto 4, 3) := by decide +kernel
theorem dX7_take_208 : decode cX7_take 208 = .ok (.iconst 0, 1) := by decide +kernel
theorem dX7_take_209 : decode cX7_take 209 = .ok (.ireturn, 1) := by decide +kernel
theorem dX7_takePart_0 : decode cX7_takePart 0 = .ok (.iload_n 1, 1) := by decide +kernel
theorem dX7_takePart_1 : decode cX7_takePart 1 = .ok (.bipush 70, 2) := by decide +kernel
theorem dX7_takePart_3 : decode cX7_takePart 3 = .ok (.if_icmp .ne 28, 3) := by decide +kernel
theorem dX7_takePart_6 : decode cX7_takePart 6 = .ok (.aload_n 0, 1) := by decide +kernel
theorem dX7_takePart_7 : decode cX7_takePart 7 = .ok (.getfield 94, 3) := by decide +kernel
theorem dX7_takePart_10 : decode cX7_takePart 10 = .ok (.iconst 4, 1) := by decide +kernel
theorem dX7_takePart_11 : decode cX7_takePart 11 = .ok (.if_icmp .ge 20, 3) := by decide +kernel
theorem dX7_takePart_14 : decode cX7_takePart 14 = .ok (.aload_n 0, 1) := by decide +kernel
theorem dX7_takePart_15 : decode cX7_takePart 15 = .ok (.dup, 1) := by decide +kernel
theorem dX7_takePart_16 : decode cX7_takePart 16 = .ok (.getfield 94, 3) := by decide +kernel
theorem dX7_takePart_19 : decode cX7_takePart 19 = .ok (.iconst 1, 1) := by decide +kernel
theorem dX7_takePart_20 : decode cX7_takePart 20 = .ok (.iadd, 1) := by decide +kernel
theorem dX7_takePart_21 : decode cX7_takePart 21 = .ok (.putfield 94, 3) := by decide +kernel
theorem dX7_takePart_24 : decode cX7_takePart 24 = .ok (.aload_n 0, 1) := by decide +kernel
theorem dX7_takePart_25 : decode cX7_takePart 25 = .ok (.iconst 1, 1) := by decide +kernel
theorem dX7_takePart_26 : decode cX7_takePart 26 = .ok (.putfield 87, 3) := by decide +kernel
theorem dX7_takePart_29 : decode cX7_takePart 29 = .ok (.iconst 1, 1) := by decide +kernel
theorem dX7_takePart_30 : decode cX7_takePart 30 = .ok (.ireturn, 1) := by decide +kernel
theorem dX7_takePart_31 : decode cX7_takePart 31 = .ok (.iload_n 1, 1) := by decide +kernel
theorem dX7_takePart_32 : decode cX7_takePart 32 = .ok (.bipush 77, 2) := by decide +kernel
theorem dX7_takePart_34 : decode cX7_takePart 34 = .ok (.if_icmp .ne 28, 3) := by decide +kernel
theorem dX7_takePart_37 : decode cX7_takePart 37 = .ok (.aload_n 0, 1) := by decide +kernel
theorem dX7_takePart_38 : decode cX7_takePart 38 = .ok (.getfield 99, 3) := by decide +kernel
theorem dX7_takePart_41 : decode cX7_takePart 41 = .ok (.iconst 4, 1) := by decide +kernel
theorem dX7_takePart_42 : decode cX7_takePart 42 = .ok (.if_icmp .ge 20, 3) := by decide +kernel
theorem dX7_takePart_45 : decode cX7_takePart 45 = .ok (.aload_n 0, 1) := by decide +kernel
theorem dX7_takePart_46 : decode cX7_takePart 46 = .ok (.dup, 1) := by decide +kernel
theorem dX7_takePart_47 : decode cX7_takePart 47 = .ok (.getfield 99, 3) := by decide +kernel
theorem dX7_takePart_50 : decode cX7_takePart 50 = .ok (.iconst 1, 1) := by decide +kernel
theorem dX7_takePart_51 : decode cX7_takePart 51 = .ok (.iadd, 1) := by decide +kernel
theorem dX7_takePart_52 : decode cX7_takePart 52 = .ok (.putfield 99, 3) := by decide +kernel
theorem dX7_takePart_55 : decode cX7_takePart 55 = .ok (.aload_n 0, 1) := by decide +kernel
theorem dX7_takePart_56 : decode cX7_takePart 56 = .ok (.iconst 3, 1) := by decide +kernel
theorem dX7_takePart_57 : decode cX7_takePart 57 = .ok (.putfield 87, 3) := by decide +kernel
theorem dX7_takePart_60 : decode cX7_takePart 60 = .ok (.iconst 1, 1) := by decide +kernel
theorem dX7_takePart_61 : decode cX7_takePart 61 = .ok (.ireturn, 1) := by decide +kernel
theorem dX7_takePart_62 : decode cX7_takePart 62 = .ok (.iconst 0, 1) := by decide +kernel
theorem dX7_takePart_63 : decode cX7_takePart 63 = .ok (.ireturn, 1) := by decide +kernel
theorem dX7_takeMore_0 : decode cX7_takeMore 0 = .ok (.iload_n 2, 1) := by decide +kernel
theorem dX7_takeMore_1 : decode cX7_takeMore 1 = .ok (.bipush (-9), 2) := by decide +kernel
theorem dX7_takeMore_3 : decode cX7_takeMore 3 = .ok (.if_icmp .eq 24, 3) := by decide +kernel
theorem dX7_takeMore_6 : decode cX7_takeMore 6 = .ok (.aload_n 0, 1) := by decide +kernel
theorem dX7_takeMore_7 : decode cX7_takeMore 7 = .ok (.getfield 41, 3) := by decide +kernel
theorem dX7_takeMore_10 : decode cX7_takeMore 10 = .ok (.iconst 4, 1) := by decide +kernel
theorem dX7_takeMore_11 : decode cX7_takeMore 11 = .ok (.aload_n 0, 1) := by decide +kernel
theorem dX7_takeMore_12 : decode cX7_takeMore 12 = .ok (.getfield 99, 3) := by decide +kernel
theorem dX7_takeMore_15 : decode cX7_takeMore 15 = .ok (.iadd, 1) := by decide +kernel
theorem dX7_takeMore_16 : decode cX7_takeMore 16 = .ok (.iconst 1, 1) := by decide +kernel
theorem dX7_takeMore_17 : decode cX7_takeMore 17 = .ok (.isub, 1) := by decide +kernel
theorem dX7_takeMore_18 : decode cX7_takeMore 18 = .ok (.iload_n 2, 1) := by decide +kernel
theorem dX7_takeMore_19 : decode cX7_takeMore 19 = .ok (.iastore, 1) := by decide +kernel
theorem dX7_takeMore_20 : decode cX7_takeMore 20 = .ok (.aload_n 0, 1) := by decide +kernel
theorem dX7_takeMore_21 : decode cX7_takeMore 21 = .ok (.iconst 5, 1) := by decide +kernel
theorem dX7_takeMore_22 : decode cX7_takeMore 22 = .ok (.putfield 87, 3) := by decide +kernel
theorem dX7_takeMore_25 : decode cX7_takeMore 25 = .ok (.iconst 1, 1) := by decide +kernel
theorem dX7_takeMore_26 : decode cX7_takeMore 26 = .ok (.ireturn, 1) := by decide +kernel
theorem dX7_takeMore_27 : decode cX7_takeMore 27 = .ok (.iload_n 1, 1) := by decide +kernel
theorem dX7_takeMore_28 : decode cX7_takeMore 28 = .ok (.bipush (-9), 2) := by decide +kernel
theorem dX7_takeMore_30 : decode cX7_takeMore 30 = .ok (.if_icmp .eq 24, 3) := by decide +kernel
theorem dX7_takeMore_33 : decode cX7_takeMore 33 = .ok (.aload_n 0, 1) := by decide +kernel
theorem dX7_takeMore_34 : decode cX7_takeMore 34 = .ok (.getfield 38, 3) := by decide +kernel
theorem dX7_takeMore_37 : decode cX7_takeMore 37 = .ok (.aload_n 0, 1) := by decide +kernel
theorem dX7_takeMore_38 : decode cX7_takeMore 38 = .ok (.getfield 99, 3) := by decide +kernel
theorem dX7_takeMore_41 : decode cX7_takeMore 41 = .ok (.iconst 1, 1) := by decide +kernel
theorem dX7_takeMore_42 : decode cX7_takeMore 42 = .ok (.isub, 1) := by decide +kernel
theorem dX7_takeMore_43 : decode cX7_takeMore 43 = .ok (.iaload, 1) := by decide +kernel
theorem dX7_takeMore_44 : decode cX7_takeMore 44 = .ok (.iconst 1, 1) := by decide +kernel
theorem dX7_takeMore_45 : decode cX7_takeMore 45 = .ok (.iload_n 1, 1) := by decide +kernel
theorem dX7_takeMore_46 : decode cX7_takeMore 46 = .ok (.ishl, 1) := by decide +kernel
theorem dX7_takeMore_47 : decode cX7_takeMore 47 = .ok (.if_icmp .ge 7, 3) := by decide +kernel
theorem dX7_takeMore_50 : decode cX7_takeMore 50 = .ok (.iconst 1, 1) := by decide +kernel
theorem dX7_takeMore_51 : decode cX7_takeMore 51 = .ok (.goto 4, 3) := by decide +kernel
theorem dX7_takeMore_54 : decode cX7_takeMore 54 = .ok (.iconst 0, 1) := by decide +kernel
theorem dX7_takeMore_55 : decode cX7_takeMore 55 = .ok (.istore_n 3, 1) := by decide +kernel
theorem dX7_takeMore_56 : decode cX7_takeMore 56 = .ok (.aload_n 0, 1) := by decide +kernel
theorem dX7_takeMore_57 : decode cX7_takeMore 57 = .ok (.getfield 38, 3) := by decide +kernel
theorem dX7_takeMore_60 : decode cX7_takeMore 60 = .ok (.aload_n 0, 1) := by decide +kernel
theorem dX7_takeMore_61 : decode cX7_takeMore 61 = .ok (.getfield 99, 3) := by decide +kernel
theorem dX7_takeMore_64 : decode cX7_takeMore 64 = .ok (.iconst 1, 1) := by decide +kernel
theorem dX7_takeMore_65 : decode cX7_takeMore 65 = .ok (.isub, 1) := by decide +kernel
theorem dX7_takeMore_66 : decode cX7_takeMore 66 = .ok (.dup2, 1) := by decide +kernel
theorem dX7_takeMore_67 : decode cX7_takeMore 67 = .ok (.iaload, 1) := by decide +kernel
theorem dX7_takeMore_68 : decode cX7_takeMore 68 = .ok (.iload_n 3, 1) := by decide +kernel
theorem dX7_takeMore_69 : decode cX7_takeMore 69 = .ok (.ifCond .eq 9, 3) := by decide +kernel
theorem dX7_takeMore_72 : decode cX7_takeMore 72 = .ok (.iconst 1, 1) := by decide +kernel
theorem dX7_takeMore_73 : decode cX7_takeMore 73 = .ok (.iload_n 1, 1) := by decide +kernel
theorem dX7_takeMore_74 : decode cX7_takeMore 74 = .ok (.ishl, 1) := by decide +kernel
theorem dX7_takeMore_75 : decode cX7_takeMore 75 = .ok (.goto 4, 3) := by decide +kernel
theorem dX7_takeMore_78 : decode cX7_takeMore 78 = .ok (.iconst 0, 1) := by decide +kernel
theorem dX7_takeMore_79 : decode cX7_takeMore 79 = .ok (.ior, 1) := by decide +kernel
theorem dX7_takeMore_80 : decode cX7_takeMore 80 = .ok (.iastore, 1) := by decide +kernel
theorem dX7_takeMore_81 : decode cX7_takeMore 81 = .ok (.iload_n 3, 1) := by decide +kernel
theorem dX7_takeMore_82 : decode cX7_takeMore 82 = .ok (.ireturn, 1) := by decide +kernel
theorem dX7_readText_0 : decode cX7_readText 0 = .ok (.aload_n 0, 1) := by decide +kernel
theorem dX7_readText_1 : decode cX7_readText 1 = .ok (.iconst 0, 1) := by decide +kernel
theorem dX7_readText_2 : decode cX7_readText 2 = .ok (.putfield 94, 3) := by decide +kernel
theorem dX7_readText_5 : decode cX7_readText 5 = .ok (.aload_n 0, 1) := by decide +kernel
theorem dX7_readText_6 : decode cX7_readText 6 = .ok (.iconst 0, 1) := by decide +kernel
theorem dX7_readText_7 : decode cX7_readText 7 = .ok (.putfield 99, 3) := by decide +kernel
theorem dX7_readText_10 : decode cX7_readText 10 = .ok (.aload_n 0, 1) := by decide +kernel
theorem dX7_readText_11 : decode cX7_readText 11 = .ok (.iconst 0, 1) := by decide +kernel
theorem dX7_readText_12 : decode cX7_readText 12 = .ok (.putfield 87, 3) := by decide +kernel
theorem dX7_readText_15 : decode cX7_readText 15 = .ok (.iconst 0, 1) := by decide +kernel
theorem dX7_readText_16 : decode cX7_readText 16 = .ok (.istore_n 1, 1) := by decide +kernel
theorem dX7_readText_17 : decode cX7_readText 17 = .ok (.iload_n 1, 1) := by decide +kernel
theorem dX7_readText_18 : decode cX7_readText 18 = .ok (.aload_n 0, 1) := by decide +kernel
theorem dX7_readText_19 : decode cX7_readText 19 = .ok (.getfield 76, 3) := by decide +kernel
theorem dX7_readText_22 : decode cX7_readText 22 = .ok (.if_icmp .ge 24, 3) := by decide +kernel
theorem dX7_readText_25 : decode cX7_readText 25 = .ok (.aload_n 0, 1) := by decide +kernel
theorem dX7_readText_26 : decode cX7_readText 26 = .ok (.aload_n 0, 1) := by decide +kernel
theorem dX7_readText_27 : decode cX7_readText 27 = .ok (.getfield 7, 3) := by decide +kernel
theorem dX7_readText_30 : decode cX7_readText 30 = .ok (.iload_n 1, 1) := by decide +kernel
theorem dX7_readText_31 : decode cX7_readText 31 = .ok (.iaload, 1) := by decide +kernel
theorem dX7_readText_32 : decode cX7_readText 32 = .ok (.invokevirtual 106, 3) := by decide +kernel
theorem dX7_readText_35 : decode cX7_readText 35 = .ok (.ifCond .ne 5, 3) := by decide +kernel
theorem dX7_readText_38 : decode cX7_readText 38 = .ok (.iload_n 1, 1) := by decide +kernel
theorem dX7_readText_39 : decode cX7_readText 39 = .ok (.ireturn, 1) := by decide +kernel
theorem dX7_readText_40 : decode cX7_readText 40 = .ok (.iinc 1 1, 3) := by decide +kernel
theorem dX7_readText_43 : decode cX7_readText 43 = .ok (.goto (-26), 3) := by decide +kernel
theorem dX7_readText_46 : decode cX7_readText 46 = .ok (.aload_n 0, 1) := by decide +kernel
theorem dX7_readText_47 : decode cX7_readText 47 = .ok (.getfield 87, 3) := by decide +kernel
theorem dX7_readText_50 : decode cX7_readText 50 = .ok (.ifCond .ne 8, 3) := by decide +kernel
theorem dX7_readText_53 : decode cX7_readText 53 = .ok (.bipush (-9), 2) := by decide +kernel
theorem dX7_readText_55 : decode cX7_readText 55 = .ok (.goto 7, 3) := by decide +kernel
theorem dX7_readText_58 : decode cX7_readText 58 = .ok (.aload_n 0, 1) := by decide +kernel
theorem dX7_readText_59 : decode cX7_readText 59 = .ok (.getfield 76, 3) := by decide +kernel
theorem dX7_readText_62 : decode cX7_readText 62 = .ok (.ireturn, 1) := by decide +kernel
theorem dX7_fault_0 : decode cX7_fault 0 = .ok (.aload_n 0, 1) := by decide +kernel
theorem dX7_fault_1 : decode cX7_fault 1 = .ok (.invokevirtual 109, 3) := by decide +kernel
theorem dX7_fault_4 : decode cX7_fault 4 = .ok (.ireturn, 1) := by decide +kernel
theorem dX7_tender_0 : decode cX7_tender 0 = .ok (.aload_n 0, 1) := by decide +kernel
theorem dX7_tender_1 : decode cX7_tender 1 = .ok (.invokevirtual 109, 3) := by decide +kernel
theorem dX7_tender_4 : decode cX7_tender 4 = .ok (.bipush (-9), 2) := by decide +kernel
theorem dX7_tender_6 : decode cX7_tender 6 = .ok (.if_icmp .eq 6, 3) := by decide +kernel
theorem dX7_tender_9 : decode cX7_tender 9 = .ok (.bipush (-3), 2) := by decide +kernel
theorem dX7_tender_11 : decode cX7_tender 11 = .ok (.ireturn, 1) := by decide +kernel
theorem dX7_tender_12 : decode cX7_tender 12 = .ok (.aload_n 0, 1) := by decide +kernel
theorem dX7_tender_13 : decode cX7_tender 13 = .ok (.aload_n 0, 1) := by decide +kernel
theorem dX7_tender_14 : decode cX7_tender 14 = .ok (.getfield 94, 3) := by decide +kernel
theorem dX7_tender_17 : decode cX7_tender 17 = .ok (.putfield 63, 3) := by decide +kernel
theorem dX7_tender_20 : decode cX7_tender 20 = .ok (.aload_n 0, 1) := by decide +kernel
theorem dX7_tender_21 : decode cX7_tender 21 = .ok (.aload_n 0, 1) := by decide +kernel
theorem dX7_tender_22 : decode cX7_tender 22 = .ok (.getfield 99, 3) := by decide +kernel
theorem dX7_tender_25 : decode cX7_tender 25 = .ok (.putfield 71, 3) := by decide +kernel
theorem dX7_tender_28 : decode cX7_tender 28 = .ok (.iconst 0, 1) := by decide +kernel
theorem dX7_tender_29 : decode cX7_tender 29 = .ok (.istore_n 1, 1) := by decide +kernel
theorem dX7_tender_30 : decode cX7_tender 30 = .ok (.iload_n 1, 1) := by decide +kernel
theorem dX7_tender_31 : decode cX7_tender 31 = .ok (.iconst 4, 1) := by decide +kernel
theorem dX7_tender_32 : decode cX7_tender 32 = .ok (.if_icmp .ge 33, 3) := by decide +kernel
theorem dX7_tender_35 : decode cX7_tender 35 = .ok (.aload_n 0, 1) := by decide +kernel
theorem dX7_tender_36 : decode cX7_tender 36 = .ok (.getfield 13, 3) := by decide +kernel
theorem dX7_tender_39 : decode cX7_tender 39 = .ok (.iload_n 1, 1) := by decide +kernel
theorem dX7_tender_40 : decode cX7_tender 40 = .ok (.aload_n 0, 1) := by decide +kernel
theorem dX7_tender_41 : decode cX7_tender 41 = .ok (.getfield 35, 3) := by decide +kernel
theorem dX7_tender_44 : decode cX7_tender 44 = .ok (.iload_n 1, 1) := by decide +kernel
theorem dX7_tender_45 : decode cX7_tender 45 = .ok (.iaload, 1) := by decide +kernel
theorem dX7_tender_46 : decode cX7_tender 46 = .ok (.iastore, 1) := by decide +kernel
theorem dX7_tender_47 : decode cX7_tender 47 = .ok (.aload_n 0, 1) := by decide +kernel
theorem dX7_tender_48 : decode cX7_tender 48 = .ok (.getfield 16, 3) := by decide +kernel
theorem dX7_tender_51 : decode cX7_tender 51 = .ok (.iload_n 1, 1) := by decide +kernel
theorem dX7_tender_52 : decode cX7_tender 52 = .ok (.aload_n 0, 1) := by decide +kernel
theorem dX7_tender_53 : decode cX7_tender 53 = .ok (.getfield 38, 3) := by decide +kernel
theorem dX7_tender_56 : decode cX7_tender 56 = .ok (.iload_n 1, 1) := by decide +kernel
theorem dX7_tender_57 : decode cX7_tender 57 = .ok (.iaload, 1) := by decide +kernel
theorem dX7_tender_58 : decode cX7_tender 58 = .ok (.iastore, 1) := by decide +kernel
theorem dX7_tender_59 : decode cX7_tender 59 = .ok (.iinc 1 1, 3) := by decide +kernel
theorem dX7_tender_62 : decode cX7_tender 62 = .ok (.goto (-32), 3) := by decide +kernel
theorem dX7_tender_65 : decode cX7_tender 65 = .ok (.iconst 0, 1) := by decide +kernel
theorem dX7_tender_66 : decode cX7_tender 66 = .ok (.istore_n 1, 1) := by decide +kernel
theorem dX7_tender_67 : decode cX7_tender 67 = .ok (.iload_n 1, 1) := by decide +kernel
theorem dX7_tender_68 : decode cX7_tender 68 = .ok (.bipush 12, 2) := by decide +kernel
theorem dX7_tender_70 : decode cX7_tender 70 = .ok (.if_icmp .ge 21, 3) := by decide +kernel
theorem dX7_tender_73 : decode cX7_tender 73 = .ok (.aload_n 0, 1) := by decide +kernel
theorem dX7_tender_74 : decode cX7_tender 74 = .ok (.getfield 19, 3) := by decide +kernel
theorem dX7_tender_77 : decode cX7_tender 77 = .ok (.iload_n 1, 1) := by decide +kernel
theorem dX7_tender_78 : decode cX7_tender 78 = .ok (.aload_n 0, 1) := by decide +kernel
theorem dX7_tender_79 : decode cX7_tender 79 = .ok (.getfield 41, 3) := by decide +kernel
theorem dX7_tender_82 : decode cX7_tender 82 = .ok (.iload_n 1, 1) := by decide +kernel
theorem dX7_tender_83 : decode cX7_tender 83 = .ok (.iaload, 1) := by decide +kernel
theorem dX7_tender_84 : decode cX7_tender 84 = .ok (.iastore, 1) := by decide +kernel
theorem dX7_tender_85 : decode cX7_tender 85 = .ok (.iinc 1 1, 3) := by decide +kernel
theorem dX7_tender_88 : decode cX7_tender 88 = .ok (.goto (-21), 3) := by decide +kernel
theorem dX7_tender_91 : decode cX7_tender 91 = .ok (.aload_n 0, 1) := by decide +kernel
theorem dX7_tender_92 : decode cX7_tender 92 = .ok (.iconst 0, 1) := by decide +kernel
theorem dX7_tender_93 : decode cX7_tender 93 = .ok (.putfield 113, 3) := by decide +kernel
theorem dX7_tender_96 : decode cX7_tender 96 = .ok (.aload_n 0, 1) := by decide +kernel
theorem dX7_tender_97 : decode cX7_tender 97 = .ok (.getfield 31, 3) := by decide +kernel
theorem dX7_tender_100 : decode cX7_tender 100 = .ok (.iconst 0, 1) := by decide +kernel
theorem dX7_tender_101 : decode cX7_tender 101 = .ok (.iconst 0, 1) := by decide +kernel
theorem dX7_tender_102 : decode cX7_tender 102 = .ok (.bastore, 1) := by decide +kernel
theorem dX7_tender_103 : decode cX7_tender 103 = .ok (.aload_n 0, 1) := by decide +kernel
theorem dX7_tender_104 : decode cX7_tender 104 = .ok (.getfield 31, 3) := by decide +kernel
theorem dX7_tender_107 : decode cX7_tender 107 = .ok (.iconst 1, 1) := by decide +kernel
theorem dX7_tender_108 : decode cX7_tender 108 = .ok (.iconst 0, 1) := by decide +kernel
theorem dX7_tender_109 : decode cX7_tender 109 = .ok (.bastore, 1) := by decide +kernel
theorem dX7_tender_110 : decode cX7_tender 110 = .ok (.aload_n 0, 1) := by decide +kernel
theorem dX7_tender_111 : decode cX7_tender 111 = .ok (.getfield 71, 3) := by decide +kernel
theorem dX7_tender_114 : decode cX7_tender 114 = .ok (.ireturn, 1) := by decide +kernel
theorem dX7_servedBy_0 : decode cX7_servedBy 0 = .ok (.iload_n 1, 1) := by decide +kernel
theorem dX7_servedBy_1 : decode cX7_servedBy 1 = .ok (.iload_n 2, 1) := by decide +kernel
theorem dX7_servedBy_2 : decode cX7_servedBy 2 = .ok (.aload_n 0, 1) := by decide +kernel
theorem dX7_servedBy_3 : decode cX7_servedBy 3 = .ok (.getfield 63, 3) := by decide +kernel
theorem dX7_servedBy_6 : decode cX7_servedBy 6 = .ok (.iconst 1, 1) := by decide +kernel
theorem dX7_servedBy_7 : decode cX7_servedBy 7 = .ok (.isub, 1) := by decide +kernel
theorem dX7_servedBy_8 : decode cX7_servedBy 8 = .ok (.iload_n 3, 1) := by decide +kernel
theorem dX7_servedBy_9 : decode cX7_servedBy 9 = .ok (.isub, 1) := by decide +kernel
theorem dX7_servedBy_10 : decode cX7_servedBy 10 = .ok (.invokestatic 116, 3) := by decide +kernel
theorem dX7_servedBy_13 : decode cX7_servedBy 13 = .ok (.idiv, 1) := by decide +kernel
theorem dX7_servedBy_14 : decode cX7_servedBy 14 = .ok (.iload_n 2, 1) := by decide +kernel
theorem dX7_servedBy_15 : decode cX7_servedBy 15 = .ok (.irem, 1) := by decide +kernel
theorem dX7_servedBy_16 : decode cX7_servedBy 16 = .ok (.istore 4, 2) := by decide +kernel
theorem dX7_servedBy_18 : decode cX7_servedBy 18 = .ok (.iload 4, 2) := by decide +kernel
theorem dX7_servedBy_20 : decode cX7_servedBy 20 = .ok (.iconst 4, 1) := by decide +kernel
theorem dX7_servedBy_21 : decode cX7_servedBy 21 = .ok (.if_icmp .ne 8, 3) := by decide +kernel
theorem dX7_servedBy_24 : decode cX7_servedBy 24 = .ok (.bipush 9, 2) := by decide +kernel
theorem dX7_servedBy_26 : decode cX7_servedBy 26 = .ok (.goto 16, 3) := by decide +kernel
theorem dX7_servedBy_29 : decode cX7_servedBy 29 = .ok (.iload 4, 2) := by decide +kernel
theorem dX7_servedBy_31 : decode cX7_servedBy 31 = .ok (.iconst 5, 1) := by decide +kernel
theorem dX7_servedBy_32 : decode cX7_servedBy 32 = .ok (.if_icmp .ne 8, 3) := by decide +kernel
theorem dX7_servedBy_35 : decode cX7_servedBy 35 = .ok (.bipush 10, 2) := by decide +kernel
theorem dX7_servedBy_37 : decode cX7_servedBy 37 = .ok (.goto 5, 3) := by decide +kernel
theorem dX7_servedBy_40 : decode cX7_servedBy 40 = .ok (.iload 4, 2) := by decide +kernel
theorem dX7_servedBy_42 : decode cX7_servedBy 42 = .ok (.ireturn, 1) := by decide +kernel
theorem dX7_mayServe_0 : decode cX7_mayServe 0 = .ok (.aload_n 0, 1) := by decide +kernel
theorem dX7_mayServe_1 : decode cX7_mayServe 1 = .ok (.iload_n 2, 1) := by decide +kernel
theorem dX7_mayServe_2 : decode cX7_mayServe 2 = .ok (.iload_n 3, 1) := by decide +kernel
theorem dX7_mayServe_3 : decode cX7_mayServe 3 = .ok (.iload 4, 2) := by decide +kernel
theorem dX7_mayServe_5 : decode cX7_mayServe 5 = .ok (.invokevirtual 119, 3) := by decide +kernel
theorem dX7_mayServe_8 : decode cX7_mayServe 8 = .ok (.istore 6, 2) := by decide +kernel
theorem dX7_mayServe_10 : decode cX7_mayServe 10 = .ok (.iload 6, 2) := by decide +kernel
theorem dX7_mayServe_12 : decode cX7_mayServe 12 = .ok (.bipush 10, 2) := by decide +kernel
theorem dX7_mayServe_14 : decode cX7_mayServe 14 = .ok (.if_icmp .ne 5, 3) := by decide +kernel
theorem dX7_mayServe_17 : decode cX7_mayServe 17 = .ok (.iconst 1, 1) := by decide +kernel
theorem dX7_mayServe_18 : decode cX7_mayServe 18 = .ok (.ireturn, 1) := by decide +kernel
theorem dX7_mayServe_19 : decode cX7_mayServe 19 = .ok (.iload 6, 2) := by decide +kernel
theorem dX7_mayServe_21 : decode cX7_mayServe 21 = .ok (.bipush 9, 2) := by decide +kernel
theorem dX7_mayServe_23 : decode cX7_mayServe 23 = .ok (.if_icmp .eq 48, 3) := by decide +kernel
theorem dX7_mayServe_26 : decode cX7_mayServe 26 = .ok (.aload_n 0, 1) := by decide +kernel
theorem dX7_mayServe_27 : decode cX7_mayServe 27 = .ok (.iload 6, 2) := by decide +kernel
theorem dX7_mayServe_29 : decode cX7_mayServe 29 = .ok (.invokevirtual 123, 3) := by decide +kernel
theorem dX7_mayServe_32 : decode cX7_mayServe 32 = .ok (.ifCond .eq 37, 3) := by decide +kernel
theorem dX7_mayServe_35 : decode cX7_mayServe 35 = .ok (.iload 5, 2) := by decide +kernel
theorem dX7_mayServe_37 : decode cX7_mayServe 37 = .ok (.iload 6, 2) := by decide +kernel
theorem dX7_mayServe_39 : decode cX7_mayServe 39 = .ok (.invokestatic 126, 3) := by decide +kernel
theorem dX7_mayServe_42 : decode cX7_mayServe 42 = .ok (.ifCond .eq 27, 3) := by decide +kernel
theorem dX7_mayServe_45 : decode cX7_mayServe 45 = .ok (.aload_n 0, 1) := by decide +kernel
theorem dX7_mayServe_46 : decode cX7_mayServe 46 = .ok (.getfield 16, 3) := by decide +kernel
theorem dX7_mayServe_49 : decode cX7_mayServe 49 = .ok (.iload 6, 2) := by decide +kernel
theorem dX7_mayServe_51 : decode cX7_mayServe 51 = .ok (.iaload, 1) := by decide +kernel
theorem dX7_mayServe_52 : decode cX7_mayServe 52 = .ok (.aload_n 0, 1) := by decide +kernel
theorem dX7_mayServe_53 : decode cX7_mayServe 53 = .ok (.getfield 13, 3) := by decide +kernel
theorem dX7_mayServe_56 : decode cX7_mayServe 56 = .ok (.iload 4, 2) := by decide +kernel
theorem dX7_mayServe_58 : decode cX7_mayServe 58 = .ok (.iaload, 1) := by decide +kernel
theorem dX7_mayServe_59 : decode cX7_mayServe 59 = .ok (.invokestatic 126, 3) := by decide +kernel
theorem dX7_mayServe_62 : decode cX7_mayServe 62 = .ok (.ifCond .eq 7, 3) := by decide +kernel
theorem dX7_mayServe_65 : decode cX7_mayServe 65 = .ok (.iconst 1, 1) := by decide +kernel
theorem dX7_mayServe_66 : decode cX7_mayServe 66 = .ok (.goto 4, 3) := by decide +kernel
theorem dX7_mayServe_69 : decode cX7_mayServe 69 = .ok (.iconst 0, 1) := by decide +kernel
theorem dX7_mayServe_70 : decode cX7_mayServe 70 = .ok (.ireturn, 1) := by decide +kernel
theorem dX7_mayServe_71 : decode cX7_mayServe 71 = .ok (.iload 4, 2) := by decide +kernel
theorem dX7_mayServe_73 : decode cX7_mayServe 73 = .ok (.ifCond .le 22, 3) := by decide +kernel
theorem dX7_mayServe_76 : decode cX7_mayServe 76 = .ok (.aload_n 0, 1) := by decide +kernel
theorem dX7_mayServe_77 : decode cX7_mayServe 77 = .ok (.iload_n 2, 1) := by decide +kernel
theorem dX7_mayServe_78 : decode cX7_mayServe 78 = .ok (.iload_n 3, 1) := by decide +kernel
theorem dX7_mayServe_79 : decode cX7_mayServe 79 = .ok (.iload 4, 2) := by decide +kernel
theorem dX7_mayServe_81 : decode cX7_mayServe 81 = .ok (.iconst 1, 1) := by decide +kernel
theorem dX7_mayServe_82 : decode cX7_mayServe 82 = .ok (.isub, 1) := by decide +kernel
theorem dX7_mayServe_83 : decode cX7_mayServe 83 = .ok (.invokevirtual 119, 3) := by decide +kernel
theorem dX7_mayServe_86 : decode cX7_mayServe 86 = .ok (.bipush 10, 2) := by decide +kernel
theorem dX7_mayServe_88 : decode cX7_mayServe 88 = .ok (.if_icmp .eq 7, 3) := by decide +kernel
theorem dX7_mayServe_91 : decode cX7_mayServe 91 = .ok (.iconst 1, 1) := by decide +kernel
theorem dX7_mayServe_92 : decode cX7_mayServe 92 = .ok (.goto 4, 3) := by decide +kernel
theorem dX7_mayServe_95 : decode cX7_mayServe 95 = .ok (.iconst 0, 1) := by decide +kernel
theorem dX7_mayServe_96 : decode cX7_mayServe 96 = .ok (.istore 7, 2) := by decide +kernel
theorem dX7_mayServe_98 : decode cX7_mayServe 98 = .ok (.iload 7, 2) := by decide +kernel
theorem dX7_mayServe_100 : decode cX7_mayServe 100 = .ok (.ifCond .eq 39, 3) := by decide +kernel
theorem dX7_mayServe_103 : decode cX7_mayServe 103 = .ok (.aload_n 0, 1) := by decide +kernel
theorem dX7_mayServe_104 : decode cX7_mayServe 104 = .ok (.getfield 13, 3) := by decide +kernel
theorem dX7_mayServe_107 : decode cX7_mayServe 107 = .ok (.iload 4, 2) := by decide +kernel
theorem dX7_mayServe_109 : decode cX7_mayServe 109 = .ok (.iconst 1, 1) := by decide +kernel
theorem dX7_mayServe_110 : decode cX7_mayServe 110 = .ok (.isub, 1) := by decide +kernel
theorem dX7_mayServe_111 : decode cX7_mayServe 111 = .ok (.iaload, 1) := by decide +kernel
theorem dX7_mayServe_112 : decode cX7_mayServe 112 = .ok (.aload_n 0, 1) := by decide +kernel
theorem dX7_mayServe_113 : decode cX7_mayServe 113 = .ok (.getfield 13, 3) := by decide +kernel
theorem dX7_mayServe_116 : decode cX7_mayServe 116 = .ok (.iload 4, 2) := by decide +kernel
theorem dX7_mayServe_118 : decode cX7_mayServe 118 = .ok (.iaload, 1) := by decide +kernel
theorem dX7_mayServe_119 : decode cX7_mayServe 119 = .ok (.if_icmp .ne 20, 3) := by decide +kernel
theorem dX7_mayServe_122 : decode cX7_mayServe 122 = .ok (.aload_n 1, 1) := by decide +kernel
theorem dX7_mayServe_123 : decode cX7_mayServe 123 = .ok (.iload 4, 2) := by decide +kernel
theorem dX7_mayServe_125 : decode cX7_mayServe 125 = .ok (.iconst 1, 1) := by decide +kernel
theorem dX7_mayServe_126 : decode cX7_mayServe 126 = .ok (.isub, 1) := by decide +kernel
theorem dX7_mayServe_127 : decode cX7_mayServe 127 = .ok (.iaload, 1) := by decide +kernel
theorem dX7_mayServe_128 : decode cX7_mayServe 128 = .ok (.aload_n 1, 1) := by decide +kernel
theorem dX7_mayServe_129 : decode cX7_mayServe 129 = .ok (.iload 4, 2) := by decide +kernel
theorem dX7_mayServe_131 : decode cX7_mayServe 131 = .ok (.iaload, 1) := by decide +kernel
theorem dX7_mayServe_132 : decode cX7_mayServe 132 = .ok (.if_icmp .lt 7, 3) := by decide +kernel
theorem dX7_mayServe_135 : decode cX7_mayServe 135 = .ok (.iconst 1, 1) := by decide +kernel
theorem dX7_mayServe_136 : decode cX7_mayServe 136 = .ok (.goto 4, 3) := by decide +kernel
theorem dX7_mayServe_139 : decode cX7_mayServe 139 = .ok (.iconst 0, 1) := by decide +kernel
theorem dX7_mayServe_140 : decode cX7_mayServe 140 = .ok (.ireturn, 1) := by decide +kernel
theorem dX7_costOf_0 : decode cX7_costOf 0 = .ok (.iconst 1, 1) := by decide +kernel
theorem dX7_costOf_1 : decode cX7_costOf 1 = .ok (.istore 5, 2) := by decide +kernel
theorem dX7_costOf_3 : decode cX7_costOf 3 = .ok (.iconst 0, 1) := by decide +kernel
theorem dX7_costOf_4 : decode cX7_costOf 4 = .ok (.istore 6, 2) := by decide +kernel
theorem dX7_costOf_6 : decode cX7_costOf 6 = .ok (.iconst 0, 1) := by decide +kernel
theorem dX7_costOf_7 : decode cX7_costOf 7 = .ok (.istore 7, 2) := by decide +kernel
theorem dX7_costOf_9 : decode cX7_costOf 9 = .ok (.iconst 0, 1) := by decide +kernel
theorem dX7_costOf_10 : decode cX7_costOf 10 = .ok (.istore 8, 2) := by decide +kernel
theorem dX7_costOf_12 : decode cX7_costOf 12 = .ok (.iload 8, 2) := by decide +kernel
theorem dX7_costOf_14 : decode cX7_costOf 14 = .ok (.iconst 4, 1) := by decide +kernel
theorem dX7_costOf_15 : decode cX7_costOf 15 = .ok (.if_icmp .ge 17, 3) := by decide +kernel
theorem dX7_costOf_18 : decode cX7_costOf 18 = .ok (.aload_n 0, 1) := by decide +kernel
theorem dX7_costOf_19 : decode cX7_costOf 19 = .ok (.getfield 53, 3) := by decide +kernel
theorem dX7_costOf_22 : decode cX7_costOf 22 = .ok (.iload 8, 2) := by decide +kernel
theorem dX7_costOf_24 : decode cX7_costOf 24 = .ok (.iconst 0, 1) := by decide +kernel
theorem dX7_costOf_25 : decode cX7_costOf 25 = .ok (.iastore, 1) := by decide +kernel
theorem dX7_costOf_26 : decode cX7_costOf 26 = .ok (.iinc 8 1, 3) := by decide +kernel
theorem dX7_costOf_29 : decode cX7_costOf 29 = .ok (.goto (-17), 3) := by decide +kernel
theorem dX7_costOf_32 : decode cX7_costOf 32 = .ok (.iconst 0, 1) := by decide +kernel
theorem dX7_costOf_33 : decode cX7_costOf 33 = .ok (.istore 8, 2) := by decide +kernel
theorem dX7_costOf_35 : decode cX7_costOf 35 = .ok (.iload 8, 2) := by decide +kernel
theorem dX7_costOf_37 : decode cX7_costOf 37 = .ok (.aload_n 0, 1) := by decide +kernel
theorem dX7_costOf_38 : decode cX7_costOf 38 = .ok (.getfield 63, 3) := by decide +kernel
theorem dX7_costOf_41 : decode cX7_costOf 41 = .ok (.if_icmp .ge 96, 3) := by decide +kernel
theorem dX7_costOf_44 : decode cX7_costOf 44 = .ok (.iload 5, 2) := by decide +kernel
theorem dX7_costOf_46 : decode cX7_costOf 46 = .ok (.ifCond .eq 91, 3) := by decide +kernel
theorem dX7_costOf_49 : decode cX7_costOf 49 = .ok (.aload_n 0, 1) := by decide +kernel
theorem dX7_costOf_50 : decode cX7_costOf 50 = .ok (.iload_n 2, 1) := by decide +kernel
theorem dX7_costOf_51 : decode cX7_costOf 51 = .ok (.iload_n 3, 1) := by decide +kernel
theorem dX7_costOf_52 : decode cX7_costOf 52 = .ok (.iload 8, 2) := by decide +kernel
theorem dX7_costOf_54 : decode cX7_costOf 54 = .ok (.invokevirtual 119, 3) := by decide +kernel
theorem dX7_costOf_57 : decode cX7_costOf 57 = .ok (.istore 9, 2) := by decide +kernel
theorem dX7_costOf_59 : decode cX7_costOf 59 = .ok (.aload_n 0, 1) := by decide +kernel
theorem dX7_costOf_60 : decode cX7_costOf 60 = .ok (.aload_n 1, 1) := by decide +kernel
theorem dX7_costOf_61 : decode cX7_costOf 61 = .ok (.iload_n 2, 1) := by decide +kernel
theorem dX7_costOf_62 : decode cX7_costOf 62 = .ok (.iload_n 3, 1) := by decide +kernel
theorem dX7_costOf_63 : decode cX7_costOf 63 = .ok (.iload 8, 2) := by decide +kernel
theorem dX7_costOf_65 : decode cX7_costOf 65 = .ok (.iload 4, 2) := by decide +kernel
theorem dX7_costOf_67 : decode cX7_costOf 67 = .ok (.invokevirtual 129, 3) := by decide +kernel
theorem dX7_costOf_70 : decode cX7_costOf 70 = .ok (.istore 5, 2) := by decide +kernel
theorem dX7_costOf_72 : decode cX7_costOf 72 = .ok (.iload 6, 2) := by decide +kernel
theorem dX7_costOf_74 : decode cX7_costOf 74 = .ok (.iload 9, 2) := by decide +kernel
theorem dX7_costOf_76 : decode cX7_costOf 76 = .ok (.bipush 9, 2) := by decide +kernel
theorem dX7_costOf_78 : decode cX7_costOf 78 = .ok (.if_icmp .ne 7, 3) := by decide +kernel
theorem dX7_costOf_81 : decode cX7_costOf 81 = .ok (.iconst 1, 1) := by decide +kernel
theorem dX7_costOf_82 : decode cX7_costOf 82 = .ok (.goto 4, 3) := by decide +kernel
theorem dX7_costOf_85 : decode cX7_costOf 85 = .ok (.iconst 0, 1) := by decide +kernel
theorem dX7_costOf_86 : decode cX7_costOf 86 = .ok (.iadd, 1) := by decide +kernel
theorem dX7_costOf_87 : decode cX7_costOf 87 = .ok (.istore 6, 2) := by decide +kernel
theorem dX7_costOf_89 : decode cX7_costOf 89 = .ok (.iload 5, 2) := by decide +kernel
theorem dX7_costOf_91 : decode cX7_costOf 91 = .ok (.ifCond .eq 40, 3) := by decide +kernel
theorem dX7_costOf_94 : decode cX7_costOf 94 = .ok (.iload 9, 2) := by decide +kernel
theorem dX7_costOf_96 : decode cX7_costOf 96 = .ok (.iconst 4, 1) := by decide +kernel
theorem dX7_costOf_97 : decode cX7_costOf 97 = .ok (.if_icmp .ge 34, 3) := by decide +kernel
theorem dX7_costOf_100 : decode cX7_costOf 100 = .ok (.aload_n 0, 1) := by decide +kernel
theorem dX7_costOf_101 : decode cX7_costOf 101 = .ok (.getfield 53, 3) := by decide +kernel
theorem dX7_costOf_104 : decode cX7_costOf 104 = .ok (.iload 9, 2) := by decide +kernel
theorem dX7_costOf_106 : decode cX7_costOf 106 = .ok (.dup2, 1) := by decide +kernel
theorem dX7_costOf_107 : decode cX7_costOf 107 = .ok (.iaload, 1) := by decide +kernel
theorem dX7_costOf_108 : decode cX7_costOf 108 = .ok (.aload_n 1, 1) := by decide +kernel
theorem dX7_costOf_109 : decode cX7_costOf 109 = .ok (.iload 8, 2) := by decide +kernel
theorem dX7_costOf_111 : decode cX7_costOf 111 = .ok (.iaload, 1) := by decide +kernel
theorem dX7_costOf_112 : decode cX7_costOf 112 = .ok (.iadd, 1) := by decide +kernel
theorem dX7_costOf_113 : decode cX7_costOf 113 = .ok (.iastore, 1) := by decide +kernel
theorem dX7_costOf_114 : decode cX7_costOf 114 = .ok (.iload 7, 2) := by decide +kernel
theorem dX7_costOf_116 : decode cX7_costOf 116 = .ok (.aload_n 1, 1) := by decide +kernel
theorem dX7_costOf_117 : decode cX7_costOf 117 = .ok (.iload 8, 2) := by decide +kernel
theorem dX7_costOf_119 : decode cX7_costOf 119 = .ok (.iaload, 1) := by decide +kernel
theorem dX7_costOf_120 : decode cX7_costOf 120 = .ok (.aload_n 1, 1) := by decide +kernel
theorem dX7_costOf_121 : decode cX7_costOf 121 = .ok (.bipush 8, 2) := by decide +kernel
theorem dX7_costOf_123 : decode cX7_costOf 123 = .ok (.iload 9, 2) := by decide +kernel
theorem dX7_costOf_125 : decode cX7_costOf 125 = .ok (.iadd, 1) := by decide +kernel
theorem dX7_costOf_126 : decode cX7_costOf 126 = .ok (.iaload, 1) := by decide +kernel
theorem dX7_costOf_127 : decode cX7_costOf 127 = .ok (.imul, 1) := by decide +kernel
theorem dX7_costOf_128 : decode cX7_costOf 128 = .ok (.iadd, 1) := by decide +kernel
theorem dX7_costOf_129 : decode cX7_costOf 129 = .ok (.istore 7, 2) := by decide +kernel
theorem dX7_costOf_131 : decode cX7_costOf 131 = .ok (.iinc 8 1, 3) := by decide +kernel
theorem dX7_costOf_134 : decode cX7_costOf 134 = .ok (.goto (-99), 3) := by decide +kernel
theorem dX7_costOf_137 : decode cX7_costOf 137 = .ok (.iconst 0, 1) := by decide +kernel
theorem dX7_costOf_138 : decode cX7_costOf 138 = .ok (.istore 8, 2) := by decide +kernel
theorem dX7_costOf_140 : decode cX7_costOf 140 = .ok (.iload 8, 2) := by decide +kernel
theorem dX7_costOf_142 : decode cX7_costOf 142 = .ok (.aload_n 0, 1) := by decide +kernel
theorem dX7_costOf_143 : decode cX7_costOf 143 = .ok (.getfield 71, 3) := by decide +kernel
theorem dX7_costOf_146 : decode cX7_costOf 146 = .ok (.if_icmp .ge 37, 3) := by decide +kernel
theorem dX7_costOf_149 : decode cX7_costOf 149 = .ok (.iload 5, 2) := by decide +kernel
theorem dX7_costOf_151 : decode cX7_costOf 151 = .ok (.ifCond .eq 23, 3) := by decide +kernel
theorem dX7_costOf_154 : decode cX7_costOf 154 = .ok (.aload_n 0, 1) := by decide +kernel
theorem dX7_costOf_155 : decode cX7_costOf 155 = .ok (.getfield 53, 3) := by decide +kernel
theorem dX7_costOf_158 : decode cX7_costOf 158 = .ok (.iload 8, 2) := by decide +kernel
theorem dX7_costOf_160 : decode cX7_costOf 160 = .ok (.iaload, 1) := by decide +kernel
theorem dX7_costOf_161 : decode cX7_costOf 161 = .ok (.aload_n 1, 1) := by decide +kernel
theorem dX7_costOf_162 : decode cX7_costOf 162 = .ok (.iconst 4, 1) := by decide +kernel
theorem dX7_costOf_163 : decode cX7_costOf 163 = .ok (.iload 8, 2) := by decide +kernel
theorem dX7_costOf_165 : decode cX7_costOf 165 = .ok (.iadd, 1) := by decide +kernel
theorem dX7_costOf_166 : decode cX7_costOf 166 = .ok (.iaload, 1) := by decide +kernel
theorem dX7_costOf_167 : decode cX7_costOf 167 = .ok (.if_icmp .gt 7, 3) := by decide +kernel
theorem dX7_costOf_170 : decode cX7_costOf 170 = .ok (.iconst 1, 1) := by decide +kernel
theorem dX7_costOf_171 : decode cX7_costOf 171 = .ok (.goto 4, 3) := by decide +kernel
theorem dX7_costOf_174 : decode cX7_costOf 174 = .ok (.iconst 0, 1) := by decide +kernel
theorem dX7_costOf_175 : decode cX7_costOf 175 = .ok (.istore 5, 2) := by decide +kernel
theorem dX7_costOf_177 : decode cX7_costOf 177 = .ok (.iinc 8 1, 3) := by decide +kernel
theorem dX7_costOf_180 : decode cX7_costOf 180 = .ok (.goto (-40), 3) := by decide +kernel
theorem dX7_costOf_183 : decode cX7_costOf 183 = .ok (.iload 5, 2) := by decide +kernel
theorem dX7_costOf_185 : decode cX7_costOf 185 = .ok (.ifCond .eq 17, 3) := by decide +kernel
theorem dX7_costOf_188 : decode cX7_costOf 188 = .ok (.iload 6, 2) := by decide +kernel
theorem dX7_costOf_190 : decode cX7_costOf 190 = .ok (.aload_n 1, 1) := by decide +kernel
theorem dX7_costOf_191 : decode cX7_costOf 191 = .ok (.bipush 12, 2) := by decide +kernel
theorem dX7_costOf_193 : decode cX7_costOf 193 = .ok (.iaload, 1) := by decide +kernel
theorem dX7_costOf_194 : decode cX7_costOf 194 = .ok (.if_icmp .gt 8, 3) := by decide +kernel
theorem dX7_costOf_197 : decode cX7_costOf 197 = .ok (.iload 7, 2) := by decide +kernel
theorem dX7_costOf_199 : decode cX7_costOf 199 = .ok (.goto 5, 3) := by decide +kernel
theorem dX7_costOf_202 : decode cX7_costOf 202 = .ok (.bipush (-9), 2) := by decide +kernel
theorem dX7_costOf_204 : decode cX7_costOf 204 = .ok (.ireturn, 1) := by decide +kernel
theorem dX7_find_0 : decode cX7_find 0 = .ok (.aload_n 0, 1) := by decide +kernel
theorem dX7_find_1 : decode cX7_find 1 = .ok (.bipush (-9), 2) := by decide +kernel
theorem dX7_find_3 : decode cX7_find 3 = .ok (.putfield 133, 3) := by decide +kernel
theorem dX7_find_6 : decode cX7_find 6 = .ok (.aload_n 0, 1) := by decide +kernel
theorem dX7_find_7 : decode cX7_find 7 = .ok (.iconst 0, 1) := by decide +kernel
theorem dX7_find_8 : decode cX7_find 8 = .ok (.putfield 136, 3) := by decide +kernel
theorem dX7_find_11 : decode cX7_find 11 = .ok (.iconst 0, 1) := by decide +kernel
theorem dX7_find_12 : decode cX7_find 12 = .ok (.istore_n 3, 1) := by decide +kernel
theorem dX7_find_13 : decode cX7_find 13 = .ok (.iload_n 3, 1) := by decide +kernel
theorem dX7_find_14 : decode cX7_find 14 = .ok (.iconst 5, 1) := by decide +kernel
