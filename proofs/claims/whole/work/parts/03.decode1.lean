theorem dX0_init_0 : decode cX0_init 0 = .ok (.aload_n 0, 1) := by decide +kernel
theorem dX0_init_1 : decode cX0_init 1 = .ok (.iload_n 1, 1) := by decide +kernel
theorem dX0_init_2 : decode cX0_init 2 = .ok (.invokespecial 3, 3) := by decide +kernel
theorem dX0_init_5 : decode cX0_init 5 = .ok (.return_, 1) := by decide +kernel
theorem dX0_kind_0 : decode cX0_kind 0 = .ok (.iconst 1, 1) := by decide +kernel
theorem dX0_kind_1 : decode cX0_kind 1 = .ok (.ireturn, 1) := by decide +kernel
theorem dX0_isLendable_0 : decode cX0_isLendable 0 = .ok (.iconst 1, 1) := by decide +kernel
theorem dX0_isLendable_1 : decode cX0_isLendable 1 = .ok (.ireturn, 1) := by decide +kernel
theorem dX1_init_0 : decode cX1_init 0 = .ok (.aload_n 0, 1) := by decide +kernel
theorem dX1_init_1 : decode cX1_init 1 = .ok (.invokespecial 1, 3) := by decide +kernel
theorem dX1_init_4 : decode cX1_init 4 = .ok (.aload_n 0, 1) := by decide +kernel
theorem dX1_init_5 : decode cX1_init 5 = .ok (.iconst 0, 1) := by decide +kernel
theorem dX1_init_6 : decode cX1_init 6 = .ok (.putfield 7, 3) := by decide +kernel
theorem dX1_init_9 : decode cX1_init 9 = .ok (.return_, 1) := by decide +kernel
theorem dX1_below_0 : decode cX1_below 0 = .ok (.aload_n 0, 1) := by decide +kernel
theorem dX1_below_1 : decode cX1_below 1 = .ok (.ldc2_w 13, 3) := by decide +kernel
theorem dX1_below_4 : decode cX1_below 4 = .ok (.aload_n 0, 1) := by decide +kernel
theorem dX1_below_5 : decode cX1_below 5 = .ok (.getfield 7, 3) := by decide +kernel
theorem dX1_below_8 : decode cX1_below 8 = .ok (.i2l, 1) := by decide +kernel
theorem dX1_below_9 : decode cX1_below 9 = .ok (.lmul, 1) := by decide +kernel
theorem dX1_below_10 : decode cX1_below 10 = .ok (.ldc2_w 15, 3) := by decide +kernel
theorem dX1_below_13 : decode cX1_below 13 = .ok (.ladd, 1) := by decide +kernel
theorem dX1_below_14 : decode cX1_below 14 = .ok (.ldc2_w 17, 3) := by decide +kernel
theorem dX1_below_17 : decode cX1_below 17 = .ok (.land, 1) := by decide +kernel
theorem dX1_below_18 : decode cX1_below 18 = .ok (.l2i, 1) := by decide +kernel
theorem dX1_below_19 : decode cX1_below 19 = .ok (.putfield 7, 3) := by decide +kernel
theorem dX1_below_22 : decode cX1_below 22 = .ok (.iload_n 1, 1) := by decide +kernel
theorem dX1_below_23 : decode cX1_below 23 = .ok (.ifCond .gt 7, 3) := by decide +kernel
theorem dX1_below_26 : decode cX1_below 26 = .ok (.iconst 0, 1) := by decide +kernel
theorem dX1_below_27 : decode cX1_below 27 = .ok (.goto 12, 3) := by decide +kernel
theorem dX1_below_30 : decode cX1_below 30 = .ok (.aload_n 0, 1) := by decide +kernel
theorem dX1_below_31 : decode cX1_below 31 = .ok (.getfield 7, 3) := by decide +kernel
theorem dX1_below_34 : decode cX1_below 34 = .ok (.ldc 19, 2) := by decide +kernel
theorem dX1_below_36 : decode cX1_below 36 = .ok (.idiv, 1) := by decide +kernel
theorem dX1_below_37 : decode cX1_below 37 = .ok (.iload_n 1, 1) := by decide +kernel
theorem dX1_below_38 : decode cX1_below 38 = .ok (.irem, 1) := by decide +kernel
theorem dX1_below_39 : decode cX1_below 39 = .ok (.ireturn, 1) := by decide +kernel
theorem dX2_init_0 : decode cX2_init 0 = .ok (.aload_n 0, 1) := by decide +kernel
theorem dX2_init_1 : decode cX2_init 1 = .ok (.invokespecial 3, 3) := by decide +kernel
theorem dX2_init_4 : decode cX2_init 4 = .ok (.aload_n 0, 1) := by decide +kernel
theorem dX2_init_5 : decode cX2_init 5 = .ok (.iload_n 1, 1) := by decide +kernel
theorem dX2_init_6 : decode cX2_init 6 = .ok (.putfield 9, 3) := by decide +kernel
theorem dX2_init_9 : decode cX2_init 9 = .ok (.return_, 1) := by decide +kernel
theorem dX2_kind_0 : decode cX2_kind 0 = .ok (.iconst 0, 1) := by decide +kernel
theorem dX2_kind_1 : decode cX2_kind 1 = .ok (.ireturn, 1) := by decide +kernel
theorem dX2_fullPrice_0 : decode cX2_fullPrice 0 = .ok (.aload_n 0, 1) := by decide +kernel
theorem dX2_fullPrice_1 : decode cX2_fullPrice 1 = .ok (.getfield 9, 3) := by decide +kernel
theorem dX2_fullPrice_4 : decode cX2_fullPrice 4 = .ok (.ireturn, 1) := by decide +kernel
theorem dX2_isLendable_0 : decode cX2_isLendable 0 = .ok (.iconst 0, 1) := by decide +kernel
theorem dX2_isLendable_1 : decode cX2_isLendable 1 = .ok (.ireturn, 1) := by decide +kernel
theorem dX2_mostOpenAtPeace_0 : decode cX2_mostOpenAtPeace 0 = .ok (.iconst 0, 1) := by decide +kernel
theorem dX2_mostOpenAtPeace_1 : decode cX2_mostOpenAtPeace 1 = .ok (.ireturn, 1) := by decide +kernel
theorem dX3_init_0 : decode cX3_init 0 = .ok (.aload_n 0, 1) := by decide +kernel
theorem dX3_init_1 : decode cX3_init 1 = .ok (.iload_n 1, 1) := by decide +kernel
theorem dX3_init_2 : decode cX3_init 2 = .ok (.invokespecial 3, 3) := by decide +kernel
theorem dX3_init_5 : decode cX3_init 5 = .ok (.return_, 1) := by decide +kernel
theorem dX3_kind_0 : decode cX3_kind 0 = .ok (.iconst 3, 1) := by decide +kernel
theorem dX3_kind_1 : decode cX3_kind 1 = .ok (.ireturn, 1) := by decide +kernel
theorem dX3_fullPrice_0 : decode cX3_fullPrice 0 = .ok (.iconst 2, 1) := by decide +kernel
theorem dX3_fullPrice_1 : decode cX3_fullPrice 1 = .ok (.aload_n 0, 1) := by decide +kernel
theorem dX3_fullPrice_2 : decode cX3_fullPrice 2 = .ok (.getfield 9, 3) := by decide +kernel
theorem dX3_fullPrice_5 : decode cX3_fullPrice 5 = .ok (.imul, 1) := by decide +kernel
theorem dX3_fullPrice_6 : decode cX3_fullPrice 6 = .ok (.ireturn, 1) := by decide +kernel
theorem dX3_isLendable_0 : decode cX3_isLendable 0 = .ok (.iconst 1, 1) := by decide +kernel
theorem dX3_isLendable_1 : decode cX3_isLendable 1 = .ok (.ireturn, 1) := by decide +kernel
theorem dX4_init_0 : decode cX4_init 0 = .ok (.aload_n 0, 1) := by decide +kernel
theorem dX4_init_1 : decode cX4_init 1 = .ok (.invokespecial 3, 3) := by decide +kernel
theorem dX4_init_4 : decode cX4_init 4 = .ok (.aload_n 0, 1) := by decide +kernel
theorem dX4_init_5 : decode cX4_init 5 = .ok (.bipush 6, 2) := by decide +kernel
theorem dX4_init_7 : decode cX4_init 7 = .ok (.newarray .int, 2) := by decide +kernel
theorem dX4_init_9 : decode cX4_init 9 = .ok (.putfield 9, 3) := by decide +kernel
theorem dX4_init_12 : decode cX4_init 12 = .ok (.aload_n 0, 1) := by decide +kernel
theorem dX4_init_13 : decode cX4_init 13 = .ok (.bipush 6, 2) := by decide +kernel
theorem dX4_init_15 : decode cX4_init 15 = .ok (.newarray .int, 2) := by decide +kernel
theorem dX4_init_17 : decode cX4_init 17 = .ok (.putfield 15, 3) := by decide +kernel
theorem dX4_init_20 : decode cX4_init 20 = .ok (.aload_n 0, 1) := by decide +kernel
theorem dX4_init_21 : decode cX4_init 21 = .ok (.bipush 6, 2) := by decide +kernel
theorem dX4_init_23 : decode cX4_init 23 = .ok (.newarray .boolean, 2) := by decide +kernel
theorem dX4_init_25 : decode cX4_init 25 = .ok (.putfield 18, 3) := by decide +kernel
theorem dX4_init_28 : decode cX4_init 28 = .ok (.aload_n 0, 1) := by decide +kernel
theorem dX4_init_29 : decode cX4_init 29 = .ok (.bipush 16, 2) := by decide +kernel
theorem dX4_init_31 : decode cX4_init 31 = .ok (.newarray .int, 2) := by decide +kernel
theorem dX4_init_33 : decode cX4_init 33 = .ok (.putfield 22, 3) := by decide +kernel
theorem dX4_init_36 : decode cX4_init 36 = .ok (.aload_n 0, 1) := by decide +kernel
theorem dX4_init_37 : decode cX4_init 37 = .ok (.bipush 16, 2) := by decide +kernel
theorem dX4_init_39 : decode cX4_init 39 = .ok (.newarray .int, 2) := by decide +kernel
theorem dX4_init_41 : decode cX4_init 41 = .ok (.putfield 25, 3) := by decide +kernel
theorem dX4_init_44 : decode cX4_init 44 = .ok (.aload_n 0, 1) := by decide +kernel
theorem dX4_init_45 : decode cX4_init 45 = .ok (.bipush 8, 2) := by decide +kernel
theorem dX4_init_47 : decode cX4_init 47 = .ok (.newarray .boolean, 2) := by decide +kernel
theorem dX4_init_49 : decode cX4_init 49 = .ok (.putfield 28, 3) := by decide +kernel
theorem dX4_init_52 : decode cX4_init 52 = .ok (.aload_n 0, 1) := by decide +kernel
theorem dX4_init_53 : decode cX4_init 53 = .ok (.bipush 12, 2) := by decide +kernel
theorem dX4_init_55 : decode cX4_init 55 = .ok (.newarray .int, 2) := by decide +kernel
theorem dX4_init_57 : decode cX4_init 57 = .ok (.putfield 31, 3) := by decide +kernel
theorem dX4_init_60 : decode cX4_init 60 = .ok (.aload_n 0, 1) := by decide +kernel
theorem dX4_init_61 : decode cX4_init 61 = .ok (.bipush 12, 2) := by decide +kernel
theorem dX4_init_63 : decode cX4_init 63 = .ok (.newarray .int, 2) := by decide +kernel
theorem dX4_init_65 : decode cX4_init 65 = .ok (.putfield 34, 3) := by decide +kernel
theorem dX4_init_68 : decode cX4_init 68 = .ok (.aload_n 0, 1) := by decide +kernel
theorem dX4_init_69 : decode cX4_init 69 = .ok (.iconst 0, 1) := by decide +kernel
theorem dX4_init_70 : decode cX4_init 70 = .ok (.putfield 37, 3) := by decide +kernel
theorem dX4_init_73 : decode cX4_init 73 = .ok (.aload_n 0, 1) := by decide +kernel
theorem dX4_init_74 : decode cX4_init 74 = .ok (.bipush 8, 2) := by decide +kernel
theorem dX4_init_76 : decode cX4_init 76 = .ok (.newarray .int, 2) := by decide +kernel
theorem dX4_init_78 : decode cX4_init 78 = .ok (.putfield 41, 3) := by decide +kernel
theorem dX4_init_81 : decode cX4_init 81 = .ok (.aload_n 0, 1) := by decide +kernel
theorem dX4_init_82 : decode cX4_init 82 = .ok (.bipush 8, 2) := by decide +kernel
theorem dX4_init_84 : decode cX4_init 84 = .ok (.newarray .int, 2) := by decide +kernel
theorem dX4_init_86 : decode cX4_init 86 = .ok (.putfield 44, 3) := by decide +kernel
theorem dX4_init_89 : decode cX4_init 89 = .ok (.aload_n 0, 1) := by decide +kernel
theorem dX4_init_90 : decode cX4_init 90 = .ok (.iconst 0, 1) := by decide +kernel
theorem dX4_init_91 : decode cX4_init 91 = .ok (.putfield 47, 3) := by decide +kernel
theorem dX4_init_94 : decode cX4_init 94 = .ok (.aload_n 0, 1) := by decide +kernel
theorem dX4_init_95 : decode cX4_init 95 = .ok (.aload_n 1, 1) := by decide +kernel
theorem dX4_init_96 : decode cX4_init 96 = .ok (.putfield 50, 3) := by decide +kernel
theorem dX4_init_99 : decode cX4_init 99 = .ok (.aload_n 0, 1) := by decide +kernel
theorem dX4_init_100 : decode cX4_init 100 = .ok (.invokevirtual 54, 3) := by decide +kernel
theorem dX4_init_103 : decode cX4_init 103 = .ok (.return_, 1) := by decide +kernel
theorem dX4_begin_0 : decode cX4_begin 0 = .ok (.iconst 0, 1) := by decide +kernel
theorem dX4_begin_1 : decode cX4_begin 1 = .ok (.istore_n 1, 1) := by decide +kernel
theorem dX4_begin_2 : decode cX4_begin 2 = .ok (.iload_n 1, 1) := by decide +kernel
theorem dX4_begin_3 : decode cX4_begin 3 = .ok (.bipush 6, 2) := by decide +kernel
theorem dX4_begin_5 : decode cX4_begin 5 = .ok (.if_icmp .ge 31, 3) := by decide +kernel
theorem dX4_begin_8 : decode cX4_begin 8 = .ok (.aload_n 0, 1) := by decide +kernel
theorem dX4_begin_9 : decode cX4_begin 9 = .ok (.getfield 9, 3) := by decide +kernel
theorem dX4_begin_12 : decode cX4_begin 12 = .ok (.iload_n 1, 1) := by decide +kernel
theorem dX4_begin_13 : decode cX4_begin 13 = .ok (.bipush 9, 2) := by decide +kernel
theorem dX4_begin_15 : decode cX4_begin 15 = .ok (.iastore, 1) := by decide +kernel
theorem dX4_begin_16 : decode cX4_begin 16 = .ok (.aload_n 0, 1) := by decide +kernel
theorem dX4_begin_17 : decode cX4_begin 17 = .ok (.getfield 15, 3) := by decide +kernel
theorem dX4_begin_20 : decode cX4_begin 20 = .ok (.iload_n 1, 1) := by decide +kernel
theorem dX4_begin_21 : decode cX4_begin 21 = .ok (.iconst (-1), 1) := by decide +kernel
theorem dX4_begin_22 : decode cX4_begin 22 = .ok (.iastore, 1) := by decide +kernel
theorem dX4_begin_23 : decode cX4_begin 23 = .ok (.aload_n 0, 1) := by decide +kernel
theorem dX4_begin_24 : decode cX4_begin 24 = .ok (.getfield 18, 3) := by decide +kernel
theorem dX4_begin_27 : decode cX4_begin 27 = .ok (.iload_n 1, 1) := by decide +kernel
theorem dX4_begin_28 : decode cX4_begin 28 = .ok (.iconst 1, 1) := by decide +kernel
theorem dX4_begin_29 : decode cX4_begin 29 = .ok (.bastore, 1) := by decide +kernel
theorem dX4_begin_30 : decode cX4_begin 30 = .ok (.iinc 1 1, 3) := by decide +kernel
theorem dX4_begin_33 : decode cX4_begin 33 = .ok (.goto (-31), 3) := by decide +kernel
theorem dX4_begin_36 : decode cX4_begin 36 = .ok (.iconst 0, 1) := by decide +kernel
theorem dX4_begin_37 : decode cX4_begin 37 = .ok (.istore_n 1, 1) := by decide +kernel
theorem dX4_begin_38 : decode cX4_begin 38 = .ok (.iload_n 1, 1) := by decide +kernel
theorem dX4_begin_39 : decode cX4_begin 39 = .ok (.bipush 8, 2) := by decide +kernel
theorem dX4_begin_41 : decode cX4_begin 41 = .ok (.if_icmp .ge 16, 3) := by decide +kernel
theorem dX4_begin_44 : decode cX4_begin 44 = .ok (.aload_n 0, 1) := by decide +kernel
theorem dX4_begin_45 : decode cX4_begin 45 = .ok (.getfield 28, 3) := by decide +kernel
theorem dX4_begin_48 : decode cX4_begin 48 = .ok (.iload_n 1, 1) := by decide +kernel
theorem dX4_begin_49 : decode cX4_begin 49 = .ok (.iconst 0, 1) := by decide +kernel
theorem dX4_begin_50 : decode cX4_begin 50 = .ok (.bastore, 1) := by decide +kernel
theorem dX4_begin_51 : decode cX4_begin 51 = .ok (.iinc 1 1, 3) := by decide +kernel
theorem dX4_begin_54 : decode cX4_begin 54 = .ok (.goto (-16), 3) := by decide +kernel
theorem dX4_begin_57 : decode cX4_begin 57 = .ok (.iconst 0, 1) := by decide +kernel
theorem dX4_begin_58 : decode cX4_begin 58 = .ok (.istore_n 1, 1) := by decide +kernel
theorem dX4_begin_59 : decode cX4_begin 59 = .ok (.iload_n 1, 1) := by decide +kernel
theorem dX4_begin_60 : decode cX4_begin 60 = .ok (.bipush 16, 2) := by decide +kernel
theorem dX4_begin_62 : decode cX4_begin 62 = .ok (.if_icmp .ge 48, 3) := by decide +kernel
theorem dX4_begin_65 : decode cX4_begin 65 = .ok (.aload_n 0, 1) := by decide +kernel
theorem dX4_begin_66 : decode cX4_begin 66 = .ok (.getfield 22, 3) := by decide +kernel
theorem dX4_begin_69 : decode cX4_begin 69 = .ok (.iload_n 1, 1) := by decide +kernel
theorem dX4_begin_70 : decode cX4_begin 70 = .ok (.iload_n 1, 1) := by decide +kernel
theorem dX4_begin_71 : decode cX4_begin 71 = .ok (.iconst 2, 1) := by decide +kernel
theorem dX4_begin_72 : decode cX4_begin 72 = .ok (.aload_n 0, 1) := by decide +kernel
theorem dX4_begin_73 : decode cX4_begin 73 = .ok (.getfield 50, 3) := by decide +kernel
theorem dX4_begin_76 : decode cX4_begin 76 = .ok (.getfield 57, 3) := by decide +kernel
theorem dX4_begin_79 : decode cX4_begin 79 = .ok (.imul, 1) := by decide +kernel
theorem dX4_begin_80 : decode cX4_begin 80 = .ok (.if_icmp .ge 15, 3) := by decide +kernel
theorem dX4_begin_83 : decode cX4_begin 83 = .ok (.aload_n 0, 1) := by decide +kernel
theorem dX4_begin_84 : decode cX4_begin 84 = .ok (.getfield 50, 3) := by decide +kernel
theorem dX4_begin_87 : decode cX4_begin 87 = .ok (.getfield 62, 3) := by decide +kernel
theorem dX4_begin_90 : decode cX4_begin 90 = .ok (.iload_n 1, 1) := by decide +kernel
theorem dX4_begin_91 : decode cX4_begin 91 = .ok (.iaload, 1) := by decide +kernel
theorem dX4_begin_92 : decode cX4_begin 92 = .ok (.goto 4, 3) := by decide +kernel
theorem dX4_begin_95 : decode cX4_begin 95 = .ok (.iconst (-1), 1) := by decide +kernel
theorem dX4_begin_96 : decode cX4_begin 96 = .ok (.iastore, 1) := by decide +kernel
theorem dX4_begin_97 : decode cX4_begin 97 = .ok (.aload_n 0, 1) := by decide +kernel
theorem dX4_begin_98 : decode cX4_begin 98 = .ok (.getfield 25, 3) := by decide +kernel
theorem dX4_begin_101 : decode cX4_begin 101 = .ok (.iload_n 1, 1) := by decide +kernel
theorem dX4_begin_102 : decode cX4_begin 102 = .ok (.iconst (-1), 1) := by decide +kernel
theorem dX4_begin_103 : decode cX4_begin 103 = .ok (.iastore, 1) := by decide +kernel
theorem dX4_begin_104 : decode cX4_begin 104 = .ok (.iinc 1 1, 3) := by decide +kernel
theorem dX4_begin_107 : decode cX4_begin 107 = .ok (.goto (-48), 3) := by decide +kernel
theorem dX4_begin_110 : decode cX4_begin 110 = .ok (.aload_n 0, 1) := by decide +kernel
theorem dX4_begin_111 : decode cX4_begin 111 = .ok (.iconst 0, 1) := by decide +kernel
theorem dX4_begin_112 : decode cX4_begin 112 = .ok (.putfield 37, 3) := by decide +kernel
theorem dX4_begin_115 : decode cX4_begin 115 = .ok (.aload_n 0, 1) := by decide +kernel
theorem dX4_begin_116 : decode cX4_begin 116 = .ok (.iconst 0, 1) := by decide +kernel
theorem dX4_begin_117 : decode cX4_begin 117 = .ok (.putfield 47, 3) := by decide +kernel
theorem dX4_begin_120 : decode cX4_begin 120 = .ok (.return_, 1) := by decide +kernel
theorem dX4_copyFrom_0 : decode cX4_copyFrom 0 = .ok (.iconst 0, 1) := by decide +kernel
theorem dX4_copyFrom_1 : decode cX4_copyFrom 1 = .ok (.istore_n 2, 1) := by decide +kernel
theorem dX4_copyFrom_2 : decode cX4_copyFrom 2 = .ok (.iload_n 2, 1) := by decide +kernel
theorem dX4_copyFrom_3 : decode cX4_copyFrom 3 = .ok (.bipush 6, 2) := by decide +kernel
theorem dX4_copyFrom_5 : decode cX4_copyFrom 5 = .ok (.if_icmp .ge 21, 3) := by decide +kernel
theorem dX4_copyFrom_8 : decode cX4_copyFrom 8 = .ok (.aload_n 0, 1) := by decide +kernel
theorem dX4_copyFrom_9 : decode cX4_copyFrom 9 = .ok (.getfield 18, 3) := by decide +kernel
theorem dX4_copyFrom_12 : decode cX4_copyFrom 12 = .ok (.iload_n 2, 1) := by decide +kernel
theorem dX4_copyFrom_13 : decode cX4_copyFrom 13 = .ok (.aload_n 1, 1) := by decide +kernel
theorem dX4_copyFrom_14 : decode cX4_copyFrom 14 = .ok (.getfield 18, 3) := by decide +kernel
theorem dX4_copyFrom_17 : decode cX4_copyFrom 17 = .ok (.iload_n 2, 1) := by decide +kernel
theorem dX4_copyFrom_18 : decode cX4_copyFrom 18 = .ok (.baload, 1) := by decide +kernel
theorem dX4_copyFrom_19 : decode cX4_copyFrom 19 = .ok (.bastore, 1) := by decide +kernel
theorem dX4_copyFrom_20 : decode cX4_copyFrom 20 = .ok (.iinc 2 1, 3) := by decide +kernel
theorem dX4_copyFrom_23 : decode cX4_copyFrom 23 = .ok (.goto (-21), 3) := by decide +kernel
theorem dX4_copyFrom_26 : decode cX4_copyFrom 26 = .ok (.iconst 0, 1) := by decide +kernel
theorem dX4_copyFrom_27 : decode cX4_copyFrom 27 = .ok (.istore_n 2, 1) := by decide +kernel
theorem dX4_copyFrom_28 : decode cX4_copyFrom 28 = .ok (.iload_n 2, 1) := by decide +kernel
theorem dX4_copyFrom_29 : decode cX4_copyFrom 29 = .ok (.bipush 8, 2) := by decide +kernel
theorem dX4_copyFrom_31 : decode cX4_copyFrom 31 = .ok (.if_icmp .ge 21, 3) := by decide +kernel
theorem dX4_copyFrom_34 : decode cX4_copyFrom 34 = .ok (.aload_n 0, 1) := by decide +kernel
theorem dX4_copyFrom_35 : decode cX4_copyFrom 35 = .ok (.getfield 28, 3) := by decide +kernel
theorem dX4_copyFrom_38 : decode cX4_copyFrom 38 = .ok (.iload_n 2, 1) := by decide +kernel
theorem dX4_copyFrom_39 : decode cX4_copyFrom 39 = .ok (.aload_n 1, 1) := by decide +kernel
theorem dX4_copyFrom_40 : decode cX4_copyFrom 40 = .ok (.getfield 28, 3) := by decide +kernel
theorem dX4_copyFrom_43 : decode cX4_copyFrom 43 = .ok (.iload_n 2, 1) := by decide +kernel
theorem dX4_copyFrom_44 : decode cX4_copyFrom 44 = .ok (.baload, 1) := by decide +kernel
theorem dX4_copyFrom_45 : decode cX4_copyFrom 45 = .ok (.bastore, 1) := by decide +kernel
theorem dX4_copyFrom_46 : decode cX4_copyFrom 46 = .ok (.iinc 2 1, 3) := by decide +kernel
theorem dX4_copyFrom_49 : decode cX4_copyFrom 49 = .ok (.goto (-21), 3) := by decide +kernel
theorem dX4_copyFrom_52 : decode cX4_copyFrom 52 = .ok (.aload_n 1, 1) := by decide +kernel
theorem dX4_copyFrom_53 : decode cX4_copyFrom 53 = .ok (.getfield 9, 3) := by decide +kernel
theorem dX4_copyFrom_56 : decode cX4_copyFrom 56 = .ok (.iconst 0, 1) := by decide +kernel
theorem dX4_copyFrom_57 : decode cX4_copyFrom 57 = .ok (.aload_n 0, 1) := by decide +kernel
theorem dX4_copyFrom_58 : decode cX4_copyFrom 58 = .ok (.getfield 9, 3) := by decide +kernel
theorem dX4_copyFrom_61 : decode cX4_copyFrom 61 = .ok (.iconst 0, 1) := by decide +kernel
theorem dX4_copyFrom_62 : decode cX4_copyFrom 62 = .ok (.bipush 6, 2) := by decide +kernel
theorem dX4_copyFrom_64 : decode cX4_copyFrom 64 = .ok (.invokestatic 65, 3) := by decide +kernel
theorem dX4_copyFrom_67 : decode cX4_copyFrom 67 = .ok (.aload_n 1, 1) := by decide +kernel
theorem dX4_copyFrom_68 : decode cX4_copyFrom 68 = .ok (.getfield 15, 3) := by decide +kernel
theorem dX4_copyFrom_71 : decode cX4_copyFrom 71 = .ok (.iconst 0, 1) := by decide +kernel
theorem dX4_copyFrom_72 : decode cX4_copyFrom 72 = .ok (.aload_n 0, 1) := by decide +kernel
theorem dX4_copyFrom_73 : decode cX4_copyFrom 73 = .ok (.getfield 15, 3) := by decide +kernel
theorem dX4_copyFrom_76 : decode cX4_copyFrom 76 = .ok (.iconst 0, 1) := by decide +kernel
theorem dX4_copyFrom_77 : decode cX4_copyFrom 77 = .ok (.bipush 6, 2) := by decide +kernel
theorem dX4_copyFrom_79 : decode cX4_copyFrom 79 = .ok (.invokestatic 65, 3) := by decide +kernel
theorem dX4_copyFrom_82 : decode cX4_copyFrom 82 = .ok (.aload_n 1, 1) := by decide +kernel
theorem dX4_copyFrom_83 : decode cX4_copyFrom 83 = .ok (.getfield 22, 3) := by decide +kernel
theorem dX4_copyFrom_86 : decode cX4_copyFrom 86 = .ok (.iconst 0, 1) := by decide +kernel
theorem dX4_copyFrom_87 : decode cX4_copyFrom 87 = .ok (.aload_n 0, 1) := by decide +kernel
theorem dX4_copyFrom_88 : decode cX4_copyFrom 88 = .ok (.getfield 22, 3) := by decide +kernel
theorem dX4_copyFrom_91 : decode cX4_copyFrom 91 = .ok (.iconst 0, 1) := by decide +kernel
theorem dX4_copyFrom_92 : decode cX4_copyFrom 92 = .ok (.bipush 16, 2) := by decide +kernel
theorem dX4_copyFrom_94 : decode cX4_copyFrom 94 = .ok (.invokestatic 65, 3) := by decide +kernel
theorem dX4_copyFrom_97 : decode cX4_copyFrom 97 = .ok (.aload_n 1, 1) := by decide +kernel
theorem dX4_copyFrom_98 : decode cX4_copyFrom 98 = .ok (.getfield 25, 3) := by decide +kernel
theorem dX4_copyFrom_101 : decode cX4_copyFrom 101 = .ok (.iconst 0, 1) := by decide +kernel
theorem dX4_copyFrom_102 : decode cX4_copyFrom 102 = .ok (.aload_n 0, 1) := by decide +kernel
theorem dX4_copyFrom_103 : decode cX4_copyFrom 103 = .ok (.getfield 25, 3) := by decide +kernel
theorem dX4_copyFrom_106 : decode cX4_copyFrom 106 = .ok (.iconst 0, 1) := by decide +kernel
theorem dX4_copyFrom_107 : decode cX4_copyFrom 107 = .ok (.bipush 16, 2) := by decide +kernel
theorem dX4_copyFrom_109 : decode cX4_copyFrom 109 = .ok (.invokestatic 65, 3) := by decide +kernel
theorem dX4_copyFrom_112 : decode cX4_copyFrom 112 = .ok (.aload_n 1, 1) := by decide +kernel
theorem dX4_copyFrom_113 : decode cX4_copyFrom 113 = .ok (.getfield 31, 3) := by decide +kernel
theorem dX4_copyFrom_116 : decode cX4_copyFrom 116 = .ok (.iconst 0, 1) := by decide +kernel
theorem dX4_copyFrom_117 : decode cX4_copyFrom 117 = .ok (.aload_n 0, 1) := by decide +kernel
theorem dX4_copyFrom_118 : decode cX4_copyFrom 118 = .ok (.getfield 31, 3) := by decide +kernel
theorem dX4_copyFrom_121 : decode cX4_copyFrom 121 = .ok (.iconst 0, 1) := by decide +kernel
theorem dX4_copyFrom_122 : decode cX4_copyFrom 122 = .ok (.bipush 12, 2) := by decide +kernel
theorem dX4_copyFrom_124 : decode cX4_copyFrom 124 = .ok (.invokestatic 65, 3) := by decide +kernel
theorem dX4_copyFrom_127 : decode cX4_copyFrom 127 = .ok (.aload_n 1, 1) := by decide +kernel
theorem dX4_copyFrom_128 : decode cX4_copyFrom 128 = .ok (.getfield 34, 3) := by decide +kernel
theorem dX4_copyFrom_131 : decode cX4_copyFrom 131 = .ok (.iconst 0, 1) := by decide +kernel
theorem dX4_copyFrom_132 : decode cX4_copyFrom 132 = .ok (.aload_n 0, 1) := by decide +kernel
theorem dX4_copyFrom_133 : decode cX4_copyFrom 133 = .ok (.getfield 34, 3) := by decide +kernel
theorem dX4_copyFrom_136 : decode cX4_copyFrom 136 = .ok (.iconst 0, 1) := by decide +kernel
theorem dX4_copyFrom_137 : decode cX4_copyFrom 137 = .ok (.bipush 12, 2) := by decide +kernel
theorem dX4_copyFrom_139 : decode cX4_copyFrom 139 = .ok (.invokestatic 65, 3) := by decide +kernel
theorem dX4_copyFrom_142 : decode cX4_copyFrom 142 = .ok (.aload_n 0, 1) := by decide +kernel
theorem dX4_copyFrom_143 : decode cX4_copyFrom 143 = .ok (.aload_n 1, 1) := by decide +kernel
theorem dX4_copyFrom_144 : decode cX4_copyFrom 144 = .ok (.getfield 37, 3) := by decide +kernel
theorem dX4_copyFrom_147 : decode cX4_copyFrom 147 = .ok (.putfield 37, 3) := by decide +kernel
theorem dX4_copyFrom_150 : decode cX4_copyFrom 150 = .ok (.aload_n 1, 1) := by decide +kernel
theorem dX4_copyFrom_151 : decode cX4_copyFrom 151 = .ok (.getfield 41, 3) := by decide +kernel
theorem dX4_copyFrom_154 : decode cX4_copyFrom 154 = .ok (.iconst 0, 1) := by decide +kernel
theorem dX4_copyFrom_155 : decode cX4_copyFrom 155 = .ok (.aload_n 0, 1) := by decide +kernel
theorem dX4_copyFrom_156 : decode cX4_copyFrom 156 = .ok (.getfield 41, 3) := by decide +kernel
theorem dX4_copyFrom_159 : decode cX4_copyFrom 159 = .ok (.iconst 0, 1) := by decide +kernel
theorem dX4_copyFrom_160 : decode cX4_copyFrom 160 = .ok (.bipush 8, 2) := by decide +kernel
theorem dX4_copyFrom_162 : decode cX4_copyFrom 162 = .ok (.invokestatic 65, 3) := by decide +kernel
theorem dX4_copyFrom_165 : decode cX4_copyFrom 165 = .ok (.aload_n 1, 1) := by decide +kernel
theorem dX4_copyFrom_166 : decode cX4_copyFrom 166 = .ok (.getfield 44, 3) := by decide +kernel
theorem dX4_copyFrom_169 : decode cX4_copyFrom 169 = .ok (.iconst 0, 1) := by decide +kernel
theorem dX4_copyFrom_170 : decode cX4_copyFrom 170 = .ok (.aload_n 0, 1) := by decide +kernel
theorem dX4_copyFrom_171 : decode cX4_copyFrom 171 = .ok (.getfield 44, 3) := by decide +kernel
theorem dX4_copyFrom_174 : decode cX4_copyFrom 174 = .ok (.iconst 0, 1) := by decide +kernel
theorem dX4_copyFrom_175 : decode cX4_copyFrom 175 = .ok (.bipush 8, 2) := by decide +kernel
theorem dX4_copyFrom_177 : decode cX4_copyFrom 177 = .ok (.invokestatic 65, 3) := by decide +kernel
theorem dX4_copyFrom_180 : decode cX4_copyFrom 180 = .ok (.aload_n 0, 1) := by decide +kernel
theorem dX4_copyFrom_181 : decode cX4_copyFrom 181 = .ok (.aload_n 1, 1) := by decide +kernel
theorem dX4_copyFrom_182 : decode cX4_copyFrom 182 = .ok (.getfield 47, 3) := by decide +kernel
theorem dX4_copyFrom_185 : decode cX4_copyFrom 185 = .ok (.putfield 47, 3) := by decide +kernel
theorem dX4_copyFrom_188 : decode cX4_copyFrom 188 = .ok (.return_, 1) := by decide +kernel
theorem dX4_onSide_0 : decode cX4_onSide 0 = .ok (.iconst 2, 1) := by decide +kernel
theorem dX4_onSide_1 : decode cX4_onSide 1 = .ok (.iload_n 1, 1) := by decide +kernel
theorem dX4_onSide_2 : decode cX4_onSide 2 = .ok (.imul, 1) := by decide +kernel
theorem dX4_onSide_3 : decode cX4_onSide 3 = .ok (.iload_n 2, 1) := by decide +kernel
theorem dX4_onSide_4 : decode cX4_onSide 4 = .ok (.iadd, 1) := by decide +kernel
theorem dX4_onSide_5 : decode cX4_onSide 5 = .ok (.istore_n 3, 1) := by decide +kernel
theorem dX4_onSide_6 : decode cX4_onSide 6 = .ok (.aload_n 0, 1) := by decide +kernel
theorem dX4_onSide_7 : decode cX4_onSide 7 = .ok (.getfield 25, 3) := by decide +kernel
theorem dX4_onSide_10 : decode cX4_onSide 10 = .ok (.iload_n 3, 1) := by decide +kernel
theorem dX4_onSide_11 : decode cX4_onSide 11 = .ok (.iaload, 1) := by decide +kernel
theorem dX4_onSide_12 : decode cX4_onSide 12 = .ok (.iconst (-1), 1) := by decide +kernel
theorem dX4_onSide_13 : decode cX4_onSide 13 = .ok (.if_icmp .eq 12, 3) := by decide +kernel
theorem dX4_onSide_16 : decode cX4_onSide 16 = .ok (.aload_n 0, 1) := by decide +kernel
theorem dX4_onSide_17 : decode cX4_onSide 17 = .ok (.getfield 25, 3) := by decide +kernel
theorem dX4_onSide_20 : decode cX4_onSide 20 = .ok (.iload_n 3, 1) := by decide +kernel
theorem dX4_onSide_21 : decode cX4_onSide 21 = .ok (.iaload, 1) := by decide +kernel
theorem dX4_onSide_22 : decode cX4_onSide 22 = .ok (.goto 9, 3) := by decide +kernel
theorem dX4_onSide_25 : decode cX4_onSide 25 = .ok (.aload_n 0, 1) := by decide +kernel
theorem dX4_onSide_26 : decode cX4_onSide 26 = .ok (.getfield 22, 3) := by decide +kernel
theorem dX4_onSide_29 : decode cX4_onSide 29 = .ok (.iload_n 3, 1) := by decide +kernel
theorem dX4_onSide_30 : decode cX4_onSide 30 = .ok (.iaload, 1) := by decide +kernel
theorem dX4_onSide_31 : decode cX4_onSide 31 = .ok (.ireturn, 1) := by decide +kernel
theorem dX4_lenderOf_0 : decode cX4_lenderOf 0 = .ok (.iconst 2, 1) := by decide +kernel
theorem dX4_lenderOf_1 : decode cX4_lenderOf 1 = .ok (.iload_n 1, 1) := by decide +kernel
theorem dX4_lenderOf_2 : decode cX4_lenderOf 2 = .ok (.imul, 1) := by decide +kernel
theorem dX4_lenderOf_3 : decode cX4_lenderOf 3 = .ok (.iload_n 2, 1) := by decide +kernel
theorem dX4_lenderOf_4 : decode cX4_lenderOf 4 = .ok (.iadd, 1) := by decide +kernel
theorem dX4_lenderOf_5 : decode cX4_lenderOf 5 = .ok (.istore_n 3, 1) := by decide +kernel
theorem dX4_lenderOf_6 : decode cX4_lenderOf 6 = .ok (.aload_n 0, 1) := by decide +kernel
theorem dX4_lenderOf_7 : decode cX4_lenderOf 7 = .ok (.getfield 25, 3) := by decide +kernel
theorem dX4_lenderOf_10 : decode cX4_lenderOf 10 = .ok (.iload_n 3, 1) := by decide +kernel
theorem dX4_lenderOf_11 : decode cX4_lenderOf 11 = .ok (.iaload, 1) := by decide +kernel
theorem dX4_lenderOf_12 : decode cX4_lenderOf 12 = .ok (.iconst (-1), 1) := by decide +kernel
theorem dX4_lenderOf_13 : decode cX4_lenderOf 13 = .ok (.if_icmp .eq 12, 3) := by decide +kernel
theorem dX4_lenderOf_16 : decode cX4_lenderOf 16 = .ok (.aload_n 0, 1) := by decide +kernel
theorem dX4_lenderOf_17 : decode cX4_lenderOf 17 = .ok (.getfield 22, 3) := by decide +kernel
theorem dX4_lenderOf_20 : decode cX4_lenderOf 20 = .ok (.iload_n 3, 1) := by decide +kernel
theorem dX4_lenderOf_21 : decode cX4_lenderOf 21 = .ok (.iaload, 1) := by decide +kernel
theorem dX4_lenderOf_22 : decode cX4_lenderOf 22 = .ok (.goto 4, 3) := by decide +kernel
theorem dX4_lenderOf_25 : decode cX4_lenderOf 25 = .ok (.iconst (-1), 1) := by decide +kernel
theorem dX4_lenderOf_26 : decode cX4_lenderOf 26 = .ok (.ireturn, 1) := by decide +kernel
theorem dX4_isOpen_0 : decode cX4_isOpen 0 = .ok (.aload_n 0, 1) := by decide +kernel
theorem dX4_isOpen_1 : decode cX4_isOpen 1 = .ok (.getfield 28, 3) := by decide +kernel
theorem dX4_isOpen_4 : decode cX4_isOpen 4 = .ok (.iload_n 1, 1) := by decide +kernel
theorem dX4_isOpen_5 : decode cX4_isOpen 5 = .ok (.baload, 1) := by decide +kernel
theorem dX4_isOpen_6 : decode cX4_isOpen 6 = .ok (.ifCond .ne 21, 3) := by decide +kernel
theorem dX4_isOpen_9 : decode cX4_isOpen 9 = .ok (.aload_n 0, 1) := by decide +kernel
theorem dX4_isOpen_10 : decode cX4_isOpen 10 = .ok (.getfield 22, 3) := by decide +kernel
theorem dX4_isOpen_13 : decode cX4_isOpen 13 = .ok (.iconst 2, 1) := by decide +kernel
theorem dX4_isOpen_14 : decode cX4_isOpen 14 = .ok (.iload_n 1, 1) := by decide +kernel
theorem dX4_isOpen_15 : decode cX4_isOpen 15 = .ok (.imul, 1) := by decide +kernel
theorem dX4_isOpen_16 : decode cX4_isOpen 16 = .ok (.iload_n 2, 1) := by decide +kernel
theorem dX4_isOpen_17 : decode cX4_isOpen 17 = .ok (.iadd, 1) := by decide +kernel
theorem dX4_isOpen_18 : decode cX4_isOpen 18 = .ok (.iaload, 1) := by decide +kernel
theorem dX4_isOpen_19 : decode cX4_isOpen 19 = .ok (.iconst (-1), 1) := by decide +kernel
theorem dX4_isOpen_20 : decode cX4_isOpen 20 = .ok (.if_icmp .ne 7, 3) := by decide +kernel
theorem dX4_isOpen_23 : decode cX4_isOpen 23 = .ok (.iconst 1, 1) := by decide +kernel
theorem dX4_isOpen_24 : decode cX4_isOpen 24 = .ok (.goto 4, 3) := by decide +kernel
theorem dX4_isOpen_27 : decode cX4_isOpen 27 = .ok (.iconst 0, 1) := by decide +kernel
theorem dX4_isOpen_28 : decode cX4_isOpen 28 = .ok (.ireturn, 1) := by decide +kernel
theorem dX4_isLent_0 : decode cX4_isLent 0 = .ok (.aload_n 0, 1) := by decide +kernel
theorem dX4_isLent_1 : decode cX4_isLent 1 = .ok (.getfield 25, 3) := by decide +kernel
theorem dX4_isLent_4 : decode cX4_isLent 4 = .ok (.iconst 2, 1) := by decide +kernel
theorem dX4_isLent_5 : decode cX4_isLent 5 = .ok (.iload_n 1, 1) := by decide +kernel
theorem dX4_isLent_6 : decode cX4_isLent 6 = .ok (.imul, 1) := by decide +kernel
theorem dX4_isLent_7 : decode cX4_isLent 7 = .ok (.iload_n 2, 1) := by decide +kernel
theorem dX4_isLent_8 : decode cX4_isLent 8 = .ok (.iadd, 1) := by decide +kernel
theorem dX4_isLent_9 : decode cX4_isLent 9 = .ok (.iaload, 1) := by decide +kernel
theorem dX4_isLent_10 : decode cX4_isLent 10 = .ok (.iconst (-1), 1) := by decide +kernel
theorem dX4_isLent_11 : decode cX4_isLent 11 = .ok (.if_icmp .eq 7, 3) := by decide +kernel
theorem dX4_isLent_14 : decode cX4_isLent 14 = .ok (.iconst 1, 1) := by decide +kernel
theorem dX4_isLent_15 : decode cX4_isLent 15 = .ok (.goto 4, 3) := by decide +kernel
theorem dX4_isLent_18 : decode cX4_isLent 18 = .ok (.iconst 0, 1) := by decide +kernel
theorem dX4_isLent_19 : decode cX4_isLent 19 = .ok (.ireturn, 1) := by decide +kernel
theorem dX4_hasToDoWithSide_0 : decode cX4_hasToDoWithSide 0 = .ok (.iconst 2, 1) := by decide +kernel
theorem dX4_hasToDoWithSide_1 : decode cX4_hasToDoWithSide 1 = .ok (.iload_n 2, 1) := by decide +kernel
theorem dX4_hasToDoWithSide_2 : decode cX4_hasToDoWithSide 2 = .ok (.imul, 1) := by decide +kernel
theorem dX4_hasToDoWithSide_3 : decode cX4_hasToDoWithSide 3 = .ok (.iload_n 3, 1) := by decide +kernel
theorem dX4_hasToDoWithSide_4 : decode cX4_hasToDoWithSide 4 = .ok (.iadd, 1) := by decide +kernel
theorem dX4_hasToDoWithSide_5 : decode cX4_hasToDoWithSide 5 = .ok (.istore 4, 2) := by decide +kernel
theorem dX4_hasToDoWithSide_7 : decode cX4_hasToDoWithSide 7 = .ok (.aload_n 0, 1) := by decide +kernel
theorem dX4_hasToDoWithSide_8 : decode cX4_hasToDoWithSide 8 = .ok (.getfield 22, 3) := by decide +kernel
theorem dX4_hasToDoWithSide_11 : decode cX4_hasToDoWithSide 11 = .ok (.iload 4, 2) := by decide +kernel
theorem dX4_hasToDoWithSide_13 : decode cX4_hasToDoWithSide 13 = .ok (.iaload, 1) := by decide +kernel
theorem dX4_hasToDoWithSide_14 : decode cX4_hasToDoWithSide 14 = .ok (.iload_n 1, 1) := by decide +kernel
theorem dX4_hasToDoWithSide_15 : decode cX4_hasToDoWithSide 15 = .ok (.if_icmp .eq 14, 3) := by decide +kernel
theorem dX4_hasToDoWithSide_18 : decode cX4_hasToDoWithSide 18 = .ok (.aload_n 0, 1) := by decide +kernel
theorem dX4_hasToDoWithSide_19 : decode cX4_hasToDoWithSide 19 = .ok (.getfield 25, 3) := by decide +kernel
theorem dX4_hasToDoWithSide_22 : decode cX4_hasToDoWithSide 22 = .ok (.iload 4, 2) := by decide +kernel
theorem dX4_hasToDoWithSide_24 : decode cX4_hasToDoWithSide 24 = .ok (.iaload, 1) := by decide +kernel
theorem dX4_hasToDoWithSide_25 : decode cX4_hasToDoWithSide 25 = .ok (.iload_n 1, 1) := by decide +kernel
theorem dX4_hasToDoWithSide_26 : decode cX4_hasToDoWithSide 26 = .ok (.if_icmp .ne 7, 3) := by decide +kernel
theorem dX4_hasToDoWithSide_29 : decode cX4_hasToDoWithSide 29 = .ok (.iconst 1, 1) := by decide +kernel
theorem dX4_hasToDoWithSide_30 : decode cX4_hasToDoWithSide 30 = .ok (.goto 4, 3) := by decide +kernel
theorem dX4_hasToDoWithSide_33 : decode cX4_hasToDoWithSide 33 = .ok (.iconst 0, 1) := by decide +kernel
theorem dX4_hasToDoWithSide_34 : decode cX4_hasToDoWithSide 34 = .ok (.ireturn, 1) := by decide +kernel
theorem dX4_hasToDo_0 : decode cX4_hasToDo 0 = .ok (.aload_n 0, 1) := by decide +kernel
theorem dX4_hasToDo_1 : decode cX4_hasToDo 1 = .ok (.iload_n 1, 1) := by decide +kernel
theorem dX4_hasToDo_2 : decode cX4_hasToDo 2 = .ok (.iload_n 2, 1) := by decide +kernel
theorem dX4_hasToDo_3 : decode cX4_hasToDo 3 = .ok (.iconst 0, 1) := by decide +kernel
theorem dX4_hasToDo_4 : decode cX4_hasToDo 4 = .ok (.invokevirtual 71, 3) := by decide +kernel
theorem dX4_hasToDo_7 : decode cX4_hasToDo 7 = .ok (.ifCond .ne 13, 3) := by decide +kernel
theorem dX4_hasToDo_10 : decode cX4_hasToDo 10 = .ok (.aload_n 0, 1) := by decide +kernel
theorem dX4_hasToDo_11 : decode cX4_hasToDo 11 = .ok (.iload_n 1, 1) := by decide +kernel
theorem dX4_hasToDo_12 : decode cX4_hasToDo 12 = .ok (.iload_n 2, 1) := by decide +kernel
theorem dX4_hasToDo_13 : decode cX4_hasToDo 13 = .ok (.iconst 1, 1) := by decide +kernel
theorem dX4_hasToDo_14 : decode cX4_hasToDo 14 = .ok (.invokevirtual 71, 3) := by decide +kernel
theorem dX4_hasToDo_17 : decode cX4_hasToDo 17 = .ok (.ifCond .eq 7, 3) := by decide +kernel
theorem dX4_hasToDo_20 : decode cX4_hasToDo 20 = .ok (.iconst 1, 1) := by decide +kernel
theorem dX4_hasToDo_21 : decode cX4_hasToDo 21 = .ok (.goto 4, 3) := by decide +kernel
theorem dX4_hasToDo_24 : decode cX4_hasToDo 24 = .ok (.iconst 0, 1) := by decide +kernel
theorem dX4_hasToDo_25 : decode cX4_hasToDo 25 = .ok (.ireturn, 1) := by decide +kernel
theorem dX4_priceOf_0 : decode cX4_priceOf 0 = .ok (.aload_n 0, 1) := by decide +kernel
theorem dX4_priceOf_1 : decode cX4_priceOf 1 = .ok (.getfield 50, 3) := by decide +kernel
theorem dX4_priceOf_4 : decode cX4_priceOf 4 = .ok (.getfield 75, 3) := by decide +kernel
theorem dX4_priceOf_7 : decode cX4_priceOf 7 = .ok (.iload_n 1, 1) := by decide +kernel
theorem dX4_priceOf_8 : decode cX4_priceOf 8 = .ok (.aaload, 1) := by decide +kernel
theorem dX4_priceOf_9 : decode cX4_priceOf 9 = .ok (.invokevirtual 79, 3) := by decide +kernel
theorem dX4_priceOf_12 : decode cX4_priceOf 12 = .ok (.istore_n 3, 1) := by decide +kernel
theorem dX4_priceOf_13 : decode cX4_priceOf 13 = .ok (.aload_n 0, 1) := by decide +kernel
theorem dX4_priceOf_14 : decode cX4_priceOf 14 = .ok (.iload_n 1, 1) := by decide +kernel
theorem dX4_priceOf_15 : decode cX4_priceOf 15 = .ok (.iconst 1, 1) := by decide +kernel
theorem dX4_priceOf_16 : decode cX4_priceOf 16 = .ok (.iload_n 2, 1) := by decide +kernel
theorem dX4_priceOf_17 : decode cX4_priceOf 17 = .ok (.isub, 1) := by decide +kernel
theorem dX4_priceOf_18 : decode cX4_priceOf 18 = .ok (.invokevirtual 85, 3) := by decide +kernel
theorem dX4_priceOf_21 : decode cX4_priceOf 21 = .ok (.ifCond .eq 11, 3) := by decide +kernel
theorem dX4_priceOf_24 : decode cX4_priceOf 24 = .ok (.iload_n 3, 1) := by decide +kernel
theorem dX4_priceOf_25 : decode cX4_priceOf 25 = .ok (.iconst 1, 1) := by decide +kernel
theorem dX4_priceOf_26 : decode cX4_priceOf 26 = .ok (.iadd, 1) := by decide +kernel
theorem dX4_priceOf_27 : decode cX4_priceOf 27 = .ok (.iconst 2, 1) := by decide +kernel
theorem dX4_priceOf_28 : decode cX4_priceOf 28 = .ok (.idiv, 1) := by decide +kernel
theorem dX4_priceOf_29 : decode cX4_priceOf 29 = .ok (.goto 4, 3) := by decide +kernel
theorem dX4_priceOf_32 : decode cX4_priceOf 32 = .ok (.iload_n 3, 1) := by decide +kernel
theorem dX4_priceOf_33 : decode cX4_priceOf 33 = .ok (.ireturn, 1) := by decide +kernel
theorem dX4_toldPrice_0 : decode cX4_toldPrice 0 = .ok (.aload_n 0, 1) := by decide +kernel
theorem dX4_toldPrice_1 : decode cX4_toldPrice 1 = .ok (.getfield 28, 3) := by decide +kernel
theorem dX4_toldPrice_4 : decode cX4_toldPrice 4 = .ok (.iload_n 1, 1) := by decide +kernel
theorem dX4_toldPrice_5 : decode cX4_toldPrice 5 = .ok (.baload, 1) := by decide +kernel
theorem dX4_toldPrice_6 : decode cX4_toldPrice 6 = .ok (.ifCond .eq 7, 3) := by decide +kernel
theorem dX4_toldPrice_9 : decode cX4_toldPrice 9 = .ok (.iconst (-1), 1) := by decide +kernel
theorem dX4_toldPrice_10 : decode cX4_toldPrice 10 = .ok (.goto 9, 3) := by decide +kernel
theorem dX4_toldPrice_13 : decode cX4_toldPrice 13 = .ok (.aload_n 0, 1) := by decide +kernel
theorem dX4_toldPrice_14 : decode cX4_toldPrice 14 = .ok (.iload_n 1, 1) := by decide +kernel
theorem dX4_toldPrice_15 : decode cX4_toldPrice 15 = .ok (.iload_n 2, 1) := by decide +kernel
theorem dX4_toldPrice_16 : decode cX4_toldPrice 16 = .ok (.invokevirtual 89, 3) := by decide +kernel
theorem dX4_toldPrice_19 : decode cX4_toldPrice 19 = .ok (.ireturn, 1) := by decide +kernel
theorem dX4_canBuy_0 : decode cX4_canBuy 0 = .ok (.aload_n 0, 1) := by decide +kernel
theorem dX4_canBuy_1 : decode cX4_canBuy 1 = .ok (.getfield 28, 3) := by decide +kernel
theorem dX4_canBuy_4 : decode cX4_canBuy 4 = .ok (.iload_n 2, 1) := by decide +kernel
theorem dX4_canBuy_5 : decode cX4_canBuy 5 = .ok (.baload, 1) := by decide +kernel
theorem dX4_canBuy_6 : decode cX4_canBuy 6 = .ok (.ifCond .ne 49, 3) := by decide +kernel
theorem dX4_canBuy_9 : decode cX4_canBuy 9 = .ok (.aload_n 0, 1) := by decide +kernel
theorem dX4_canBuy_10 : decode cX4_canBuy 10 = .ok (.iload_n 2, 1) := by decide +kernel
theorem dX4_canBuy_11 : decode cX4_canBuy 11 = .ok (.iload_n 3, 1) := by decide +kernel
theorem dX4_canBuy_12 : decode cX4_canBuy 12 = .ok (.invokevirtual 93, 3) := by decide +kernel
theorem dX4_canBuy_15 : decode cX4_canBuy 15 = .ok (.ifCond .ne 40, 3) := by decide +kernel
theorem dX4_canBuy_18 : decode cX4_canBuy 18 = .ok (.aload_n 0, 1) := by decide +kernel
theorem dX4_canBuy_19 : decode cX4_canBuy 19 = .ok (.getfield 18, 3) := by decide +kernel
theorem dX4_canBuy_22 : decode cX4_canBuy 22 = .ok (.iload_n 1, 1) := by decide +kernel
theorem dX4_canBuy_23 : decode cX4_canBuy 23 = .ok (.baload, 1) := by decide +kernel
theorem dX4_canBuy_24 : decode cX4_canBuy 24 = .ok (.ifCond .eq 31, 3) := by decide +kernel
theorem dX4_canBuy_27 : decode cX4_canBuy 27 = .ok (.aload_n 0, 1) := by decide +kernel
theorem dX4_canBuy_28 : decode cX4_canBuy 28 = .ok (.iload_n 1, 1) := by decide +kernel
theorem dX4_canBuy_29 : decode cX4_canBuy 29 = .ok (.iload_n 2, 1) := by decide +kernel
theorem dX4_canBuy_30 : decode cX4_canBuy 30 = .ok (.invokevirtual 96, 3) := by decide +kernel
theorem dX4_canBuy_33 : decode cX4_canBuy 33 = .ok (.ifCond .ne 22, 3) := by decide +kernel
theorem dX4_canBuy_36 : decode cX4_canBuy 36 = .ok (.aload_n 0, 1) := by decide +kernel
theorem dX4_canBuy_37 : decode cX4_canBuy 37 = .ok (.getfield 9, 3) := by decide +kernel
theorem dX4_canBuy_40 : decode cX4_canBuy 40 = .ok (.iload_n 1, 1) := by decide +kernel
theorem dX4_canBuy_41 : decode cX4_canBuy 41 = .ok (.iaload, 1) := by decide +kernel
theorem dX4_canBuy_42 : decode cX4_canBuy 42 = .ok (.aload_n 0, 1) := by decide +kernel
theorem dX4_canBuy_43 : decode cX4_canBuy 43 = .ok (.iload_n 2, 1) := by decide +kernel
theorem dX4_canBuy_44 : decode cX4_canBuy 44 = .ok (.iload_n 3, 1) := by decide +kernel
theorem dX4_canBuy_45 : decode cX4_canBuy 45 = .ok (.invokevirtual 89, 3) := by decide +kernel
theorem dX4_canBuy_48 : decode cX4_canBuy 48 = .ok (.if_icmp .lt 7, 3) := by decide +kernel
theorem dX4_canBuy_51 : decode cX4_canBuy 51 = .ok (.iconst 1, 1) := by decide +kernel
theorem dX4_canBuy_52 : decode cX4_canBuy 52 = .ok (.goto 4, 3) := by decide +kernel
theorem dX4_canBuy_55 : decode cX4_canBuy 55 = .ok (.iconst 0, 1) := by decide +kernel
theorem dX4_canBuy_56 : decode cX4_canBuy 56 = .ok (.ireturn, 1) := by decide +kernel
theorem dX4_sellTo_0 : decode cX4_sellTo 0 = .ok (.iconst 2, 1) := by decide +kernel
theorem dX4_sellTo_1 : decode cX4_sellTo 1 = .ok (.iload_n 2, 1) := by decide +kernel
theorem dX4_sellTo_2 : decode cX4_sellTo 2 = .ok (.imul, 1) := by decide +kernel
theorem dX4_sellTo_3 : decode cX4_sellTo 3 = .ok (.iload_n 3, 1) := by decide +kernel
theorem dX4_sellTo_4 : decode cX4_sellTo 4 = .ok (.iadd, 1) := by decide +kernel
theorem dX4_sellTo_5 : decode cX4_sellTo 5 = .ok (.istore 4, 2) := by decide +kernel
theorem dX4_sellTo_7 : decode cX4_sellTo 7 = .ok (.aload_n 0, 1) := by decide +kernel
theorem dX4_sellTo_8 : decode cX4_sellTo 8 = .ok (.iload_n 2, 1) := by decide +kernel
theorem dX4_sellTo_9 : decode cX4_sellTo 9 = .ok (.iload_n 3, 1) := by decide +kernel
theorem dX4_sellTo_10 : decode cX4_sellTo 10 = .ok (.invokevirtual 89, 3) := by decide +kernel
theorem dX4_sellTo_13 : decode cX4_sellTo 13 = .ok (.istore 5, 2) := by decide +kernel
theorem dX4_sellTo_15 : decode cX4_sellTo 15 = .ok (.aload_n 0, 1) := by decide +kernel
theorem dX4_sellTo_16 : decode cX4_sellTo 16 = .ok (.getfield 9, 3) := by decide +kernel
theorem dX4_sellTo_19 : decode cX4_sellTo 19 = .ok (.iload_n 1, 1) := by decide +kernel
theorem dX4_sellTo_20 : decode cX4_sellTo 20 = .ok (.dup2, 1) := by decide +kernel
theorem dX4_sellTo_21 : decode cX4_sellTo 21 = .ok (.iaload, 1) := by decide +kernel
theorem dX4_sellTo_22 : decode cX4_sellTo 22 = .ok (.iload 5, 2) := by decide +kernel
theorem dX4_sellTo_24 : decode cX4_sellTo 24 = .ok (.isub, 1) := by decide +kernel
theorem dX4_sellTo_25 : decode cX4_sellTo 25 = .ok (.iastore, 1) := by decide +kernel
theorem dX4_sellTo_26 : decode cX4_sellTo 26 = .ok (.aload_n 0, 1) := by decide +kernel
theorem dX4_sellTo_27 : decode cX4_sellTo 27 = .ok (.getfield 22, 3) := by decide +kernel
theorem dX4_sellTo_30 : decode cX4_sellTo 30 = .ok (.iload 4, 2) := by decide +kernel
theorem dX4_sellTo_32 : decode cX4_sellTo 32 = .ok (.iaload, 1) := by decide +kernel
theorem dX4_sellTo_33 : decode cX4_sellTo 33 = .ok (.iconst (-1), 1) := by decide +kernel
theorem dX4_sellTo_34 : decode cX4_sellTo 34 = .ok (.if_icmp .eq 16, 3) := by decide +kernel
theorem dX4_sellTo_37 : decode cX4_sellTo 37 = .ok (.aload_n 0, 1) := by decide +kernel
theorem dX4_sellTo_38 : decode cX4_sellTo 38 = .ok (.aload_n 0, 1) := by decide +kernel
theorem dX4_sellTo_39 : decode cX4_sellTo 39 = .ok (.getfield 22, 3) := by decide +kernel
theorem dX4_sellTo_42 : decode cX4_sellTo 42 = .ok (.iload 4, 2) := by decide +kernel
theorem dX4_sellTo_44 : decode cX4_sellTo 44 = .ok (.iaload, 1) := by decide +kernel
theorem dX4_sellTo_45 : decode cX4_sellTo 45 = .ok (.iload 5, 2) := by decide +kernel
theorem dX4_sellTo_47 : decode cX4_sellTo 47 = .ok (.invokevirtual 99, 3) := by decide +kernel
theorem dX4_sellTo_50 : decode cX4_sellTo 50 = .ok (.aload_n 0, 1) := by decide +kernel
theorem dX4_sellTo_51 : decode cX4_sellTo 51 = .ok (.getfield 22, 3) := by decide +kernel
theorem dX4_sellTo_54 : decode cX4_sellTo 54 = .ok (.iload 4, 2) := by decide +kernel
theorem dX4_sellTo_56 : decode cX4_sellTo 56 = .ok (.iload_n 1, 1) := by decide +kernel
theorem dX4_sellTo_57 : decode cX4_sellTo 57 = .ok (.iastore, 1) := by decide +kernel
theorem dX4_sellTo_58 : decode cX4_sellTo 58 = .ok (.iload 5, 2) := by decide +kernel
theorem dX4_sellTo_60 : decode cX4_sellTo 60 = .ok (.ireturn, 1) := by decide +kernel
theorem dX4_pay_0 : decode cX4_pay 0 = .ok (.aload_n 0, 1) := by decide +kernel
theorem dX4_pay_1 : decode cX4_pay 1 = .ok (.getfield 9, 3) := by decide +kernel
theorem dX4_pay_4 : decode cX4_pay 4 = .ok (.iload_n 1, 1) := by decide +kernel
theorem dX4_pay_5 : decode cX4_pay 5 = .ok (.bipush 99, 2) := by decide +kernel
theorem dX4_pay_7 : decode cX4_pay 7 = .ok (.aload_n 0, 1) := by decide +kernel
theorem dX4_pay_8 : decode cX4_pay 8 = .ok (.getfield 9, 3) := by decide +kernel
theorem dX4_pay_11 : decode cX4_pay 11 = .ok (.iload_n 1, 1) := by decide +kernel
theorem dX4_pay_12 : decode cX4_pay 12 = .ok (.iaload, 1) := by decide +kernel
theorem dX4_pay_13 : decode cX4_pay 13 = .ok (.iload_n 2, 1) := by decide +kernel
theorem dX4_pay_14 : decode cX4_pay 14 = .ok (.iadd, 1) := by decide +kernel
theorem dX4_pay_15 : decode cX4_pay 15 = .ok (.invokestatic 103, 3) := by decide +kernel
theorem dX4_pay_18 : decode cX4_pay 18 = .ok (.iastore, 1) := by decide +kernel
theorem dX4_pay_19 : decode cX4_pay 19 = .ok (.return_, 1) := by decide +kernel
theorem dX4_getOn_0 : decode cX4_getOn 0 = .ok (.aload_n 0, 1) := by decide +kernel
theorem dX4_getOn_1 : decode cX4_getOn 1 = .ok (.iload_n 2, 1) := by decide +kernel
theorem dX4_getOn_2 : decode cX4_getOn 2 = .ok (.iload_n 3, 1) := by decide +kernel
theorem dX4_getOn_3 : decode cX4_getOn 3 = .ok (.invokevirtual 108, 3) := by decide +kernel
theorem dX4_getOn_6 : decode cX4_getOn 6 = .ok (.iload_n 1, 1) := by decide +kernel
theorem dX4_getOn_7 : decode cX4_getOn 7 = .ok (.if_icmp .ne 5, 3) := by decide +kernel
theorem dX4_getOn_10 : decode cX4_getOn 10 = .ok (.iconst 0, 1) := by decide +kernel
theorem dX4_getOn_11 : decode cX4_getOn 11 = .ok (.ireturn, 1) := by decide +kernel
theorem dX4_getOn_12 : decode cX4_getOn 12 = .ok (.aload_n 0, 1) := by decide +kernel
theorem dX4_getOn_13 : decode cX4_getOn 13 = .ok (.iload_n 1, 1) := by decide +kernel
theorem dX4_getOn_14 : decode cX4_getOn 14 = .ok (.iload_n 2, 1) := by decide +kernel
theorem dX4_getOn_15 : decode cX4_getOn 15 = .ok (.iload_n 3, 1) := by decide +kernel
theorem dX4_getOn_16 : decode cX4_getOn 16 = .ok (.invokevirtual 111, 3) := by decide +kernel
theorem dX4_getOn_19 : decode cX4_getOn 19 = .ok (.ifCond .eq 13, 3) := by decide +kernel
theorem dX4_getOn_22 : decode cX4_getOn 22 = .ok (.aload_n 0, 1) := by decide +kernel
theorem dX4_getOn_23 : decode cX4_getOn 23 = .ok (.iload_n 1, 1) := by decide +kernel
theorem dX4_getOn_24 : decode cX4_getOn 24 = .ok (.iload_n 2, 1) := by decide +kernel
theorem dX4_getOn_25 : decode cX4_getOn 25 = .ok (.iload_n 3, 1) := by decide +kernel
theorem dX4_getOn_26 : decode cX4_getOn 26 = .ok (.invokevirtual 114, 3) := by decide +kernel
theorem dX4_getOn_29 : decode cX4_getOn 29 = .ok (.goto 4, 3) := by decide +kernel
theorem dX4_getOn_32 : decode cX4_getOn 32 = .ok (.iconst (-1), 1) := by decide +kernel
theorem dX4_getOn_33 : decode cX4_getOn 33 = .ok (.ireturn, 1) := by decide +kernel
theorem dX4_canLend_0 : decode cX4_canLend 0 = .ok (.aload_n 0, 1) := by decide +kernel
theorem dX4_canLend_1 : decode cX4_canLend 1 = .ok (.getfield 28, 3) := by decide +kernel
theorem dX4_canLend_4 : decode cX4_canLend 4 = .ok (.iload_n 1, 1) := by decide +kernel
theorem dX4_canLend_5 : decode cX4_canLend 5 = .ok (.baload, 1) := by decide +kernel
theorem dX4_canLend_6 : decode cX4_canLend 6 = .ok (.ifCond .ne 58, 3) := by decide +kernel
theorem dX4_canLend_9 : decode cX4_canLend 9 = .ok (.aload_n 0, 1) := by decide +kernel
theorem dX4_canLend_10 : decode cX4_canLend 10 = .ok (.iload_n 1, 1) := by decide +kernel
theorem dX4_canLend_11 : decode cX4_canLend 11 = .ok (.iload_n 2, 1) := by decide +kernel
theorem dX4_canLend_12 : decode cX4_canLend 12 = .ok (.invokevirtual 85, 3) := by decide +kernel
theorem dX4_canLend_15 : decode cX4_canLend 15 = .ok (.ifCond .ne 49, 3) := by decide +kernel
theorem dX4_canLend_18 : decode cX4_canLend 18 = .ok (.aload_n 0, 1) := by decide +kernel
theorem dX4_canLend_19 : decode cX4_canLend 19 = .ok (.iload_n 1, 1) := by decide +kernel
theorem dX4_canLend_20 : decode cX4_canLend 20 = .ok (.iload_n 2, 1) := by decide +kernel
theorem dX4_canLend_21 : decode cX4_canLend 21 = .ok (.invokevirtual 93, 3) := by decide +kernel
theorem dX4_canLend_24 : decode cX4_canLend 24 = .ok (.ifCond .ne 40, 3) := by decide +kernel
theorem dX4_canLend_27 : decode cX4_canLend 27 = .ok (.aload_n 0, 1) := by decide +kernel
theorem dX4_canLend_28 : decode cX4_canLend 28 = .ok (.getfield 50, 3) := by decide +kernel
theorem dX4_canLend_31 : decode cX4_canLend 31 = .ok (.getfield 75, 3) := by decide +kernel
theorem dX4_canLend_34 : decode cX4_canLend 34 = .ok (.iload_n 1, 1) := by decide +kernel
theorem dX4_canLend_35 : decode cX4_canLend 35 = .ok (.aaload, 1) := by decide +kernel
theorem dX4_canLend_36 : decode cX4_canLend 36 = .ok (.invokevirtual 118, 3) := by decide +kernel
theorem dX4_canLend_39 : decode cX4_canLend 39 = .ok (.ifCond .eq 25, 3) := by decide +kernel
theorem dX4_canLend_42 : decode cX4_canLend 42 = .ok (.aload_n 0, 1) := by decide +kernel
theorem dX4_canLend_43 : decode cX4_canLend 43 = .ok (.getfield 18, 3) := by decide +kernel
theorem dX4_canLend_46 : decode cX4_canLend 46 = .ok (.iload_n 3, 1) := by decide +kernel
theorem dX4_canLend_47 : decode cX4_canLend 47 = .ok (.baload, 1) := by decide +kernel
theorem dX4_canLend_48 : decode cX4_canLend 48 = .ok (.ifCond .eq 16, 3) := by decide +kernel
theorem dX4_canLend_51 : decode cX4_canLend 51 = .ok (.aload_n 0, 1) := by decide +kernel
theorem dX4_canLend_52 : decode cX4_canLend 52 = .ok (.iload_n 3, 1) := by decide +kernel
theorem dX4_canLend_53 : decode cX4_canLend 53 = .ok (.iload_n 1, 1) := by decide +kernel
theorem dX4_canLend_54 : decode cX4_canLend 54 = .ok (.invokevirtual 96, 3) := by decide +kernel
theorem dX4_canLend_57 : decode cX4_canLend 57 = .ok (.ifCond .ne 7, 3) := by decide +kernel
theorem dX4_canLend_60 : decode cX4_canLend 60 = .ok (.iconst 1, 1) := by decide +kernel
theorem dX4_canLend_61 : decode cX4_canLend 61 = .ok (.goto 4, 3) := by decide +kernel
theorem dX4_canLend_64 : decode cX4_canLend 64 = .ok (.iconst 0, 1) := by decide +kernel
theorem dX4_canLend_65 : decode cX4_canLend 65 = .ok (.ireturn, 1) := by decide +kernel
theorem dX4_canStrike_0 : decode cX4_canStrike 0 = .ok (.aload_n 0, 1) := by decide +kernel
theorem dX4_canStrike_1 : decode cX4_canStrike 1 = .ok (.iload_n 1, 1) := by decide +kernel
theorem dX4_canStrike_2 : decode cX4_canStrike 2 = .ok (.iconst 0, 1) := by decide +kernel
theorem dX4_canStrike_3 : decode cX4_canStrike 3 = .ok (.invokevirtual 85, 3) := by decide +kernel
theorem dX4_canStrike_6 : decode cX4_canStrike 6 = .ok (.ifCond .eq 7, 3) := by decide +kernel
theorem dX4_canStrike_9 : decode cX4_canStrike 9 = .ok (.iconst 1, 1) := by decide +kernel
theorem dX4_canStrike_10 : decode cX4_canStrike 10 = .ok (.goto 4, 3) := by decide +kernel
theorem dX4_canStrike_13 : decode cX4_canStrike 13 = .ok (.iconst 0, 1) := by decide +kernel
theorem dX4_canStrike_14 : decode cX4_canStrike 14 = .ok (.aload_n 0, 1) := by decide +kernel
theorem dX4_canStrike_15 : decode cX4_canStrike 15 = .ok (.iload_n 1, 1) := by decide +kernel
theorem dX4_canStrike_16 : decode cX4_canStrike 16 = .ok (.iconst 1, 1) := by decide +kernel
theorem dX4_canStrike_17 : decode cX4_canStrike 17 = .ok (.invokevirtual 85, 3) := by decide +kernel
theorem dX4_canStrike_20 : decode cX4_canStrike 20 = .ok (.ifCond .eq 7, 3) := by decide +kernel
theorem dX4_canStrike_23 : decode cX4_canStrike 23 = .ok (.iconst 1, 1) := by decide +kernel
theorem dX4_canStrike_24 : decode cX4_canStrike 24 = .ok (.goto 4, 3) := by decide +kernel
theorem dX4_canStrike_27 : decode cX4_canStrike 27 = .ok (.iconst 0, 1) := by decide +kernel
theorem dX4_canStrike_28 : decode cX4_canStrike 28 = .ok (.iadd, 1) := by decide +kernel
theorem dX4_canStrike_29 : decode cX4_canStrike 29 = .ok (.istore_n 2, 1) := by decide +kernel
theorem dX4_canStrike_30 : decode cX4_canStrike 30 = .ok (.aload_n 0, 1) := by decide +kernel
theorem dX4_canStrike_31 : decode cX4_canStrike 31 = .ok (.getfield 28, 3) := by decide +kernel
theorem dX4_canStrike_34 : decode cX4_canStrike 34 = .ok (.iload_n 1, 1) := by decide +kernel
theorem dX4_canStrike_35 : decode cX4_canStrike 35 = .ok (.baload, 1) := by decide +kernel
theorem dX4_canStrike_36 : decode cX4_canStrike 36 = .ok (.ifCond .ne 41, 3) := by decide +kernel
theorem dX4_canStrike_39 : decode cX4_canStrike 39 = .ok (.aload_n 0, 1) := by decide +kernel
theorem dX4_canStrike_40 : decode cX4_canStrike 40 = .ok (.iload_n 1, 1) := by decide +kernel
theorem dX4_canStrike_41 : decode cX4_canStrike 41 = .ok (.iconst 0, 1) := by decide +kernel
theorem dX4_canStrike_42 : decode cX4_canStrike 42 = .ok (.invokevirtual 93, 3) := by decide +kernel
theorem dX4_canStrike_45 : decode cX4_canStrike 45 = .ok (.ifCond .ne 32, 3) := by decide +kernel
theorem dX4_canStrike_48 : decode cX4_canStrike 48 = .ok (.aload_n 0, 1) := by decide +kernel
theorem dX4_canStrike_49 : decode cX4_canStrike 49 = .ok (.iload_n 1, 1) := by decide +kernel
theorem dX4_canStrike_50 : decode cX4_canStrike 50 = .ok (.iconst 1, 1) := by decide +kernel
theorem dX4_canStrike_51 : decode cX4_canStrike 51 = .ok (.invokevirtual 93, 3) := by decide +kernel
theorem dX4_canStrike_54 : decode cX4_canStrike 54 = .ok (.ifCond .ne 23, 3) := by decide +kernel
theorem dX4_canStrike_57 : decode cX4_canStrike 57 = .ok (.iload_n 2, 1) := by decide +kernel
theorem dX4_canStrike_58 : decode cX4_canStrike 58 = .ok (.aload_n 0, 1) := by decide +kernel
theorem dX4_canStrike_59 : decode cX4_canStrike 59 = .ok (.getfield 50, 3) := by decide +kernel
theorem dX4_canStrike_62 : decode cX4_canStrike 62 = .ok (.getfield 75, 3) := by decide +kernel
theorem dX4_canStrike_65 : decode cX4_canStrike 65 = .ok (.iload_n 1, 1) := by decide +kernel
theorem dX4_canStrike_66 : decode cX4_canStrike 66 = .ok (.aaload, 1) := by decide +kernel
theorem dX4_canStrike_67 : decode cX4_canStrike 67 = .ok (.invokevirtual 122, 3) := by decide +kernel
theorem dX4_canStrike_70 : decode cX4_canStrike 70 = .ok (.if_icmp .gt 7, 3) := by decide +kernel
theorem dX4_canStrike_73 : decode cX4_canStrike 73 = .ok (.iconst 1, 1) := by decide +kernel
theorem dX4_canStrike_74 : decode cX4_canStrike 74 = .ok (.goto 4, 3) := by decide +kernel
theorem dX4_canStrike_77 : decode cX4_canStrike 77 = .ok (.iconst 0, 1) := by decide +kernel
theorem dX4_canStrike_78 : decode cX4_canStrike 78 = .ok (.ireturn, 1) := by decide +kernel
theorem dX4_strike_0 : decode cX4_strike 0 = .ok (.aload_n 0, 1) := by decide +kernel
theorem dX4_strike_1 : decode cX4_strike 1 = .ok (.getfield 28, 3) := by decide +kernel
theorem dX4_strike_4 : decode cX4_strike 4 = .ok (.iload_n 1, 1) := by decide +kernel
theorem dX4_strike_5 : decode cX4_strike 5 = .ok (.iconst 1, 1) := by decide +kernel
theorem dX4_strike_6 : decode cX4_strike 6 = .ok (.bastore, 1) := by decide +kernel
theorem dX4_strike_7 : decode cX4_strike 7 = .ok (.aload_n 0, 1) := by decide +kernel
theorem dX4_strike_8 : decode cX4_strike 8 = .ok (.getfield 22, 3) := by decide +kernel
theorem dX4_strike_11 : decode cX4_strike 11 = .ok (.iconst 2, 1) := by decide +kernel
theorem dX4_strike_12 : decode cX4_strike 12 = .ok (.iload_n 1, 1) := by decide +kernel
theorem dX4_strike_13 : decode cX4_strike 13 = .ok (.imul, 1) := by decide +kernel
theorem dX4_strike_14 : decode cX4_strike 14 = .ok (.iconst (-1), 1) := by decide +kernel
theorem dX4_strike_15 : decode cX4_strike 15 = .ok (.iastore, 1) := by decide +kernel
theorem dX4_strike_16 : decode cX4_strike 16 = .ok (.aload_n 0, 1) := by decide +kernel
theorem dX4_strike_17 : decode cX4_strike 17 = .ok (.getfield 22, 3) := by decide +kernel
theorem dX4_strike_20 : decode cX4_strike 20 = .ok (.iconst 2, 1) := by decide +kernel
theorem dX4_strike_21 : decode cX4_strike 21 = .ok (.iload_n 1, 1) := by decide +kernel
theorem dX4_strike_22 : decode cX4_strike 22 = .ok (.imul, 1) := by decide +kernel
theorem dX4_strike_23 : decode cX4_strike 23 = .ok (.iconst 1, 1) := by decide +kernel
theorem dX4_strike_24 : decode cX4_strike 24 = .ok (.iadd, 1) := by decide +kernel
theorem dX4_strike_25 : decode cX4_strike 25 = .ok (.iconst (-1), 1) := by decide +kernel
theorem dX4_strike_26 : decode cX4_strike 26 = .ok (.iastore, 1) := by decide +kernel
theorem dX4_strike_27 : decode cX4_strike 27 = .ok (.return_, 1) := by decide +kernel
theorem dX4_die_0 : decode cX4_die 0 = .ok (.aload_n 0, 1) := by decide +kernel
theorem dX4_die_1 : decode cX4_die 1 = .ok (.getfield 18, 3) := by decide +kernel
theorem dX4_die_4 : decode cX4_die 4 = .ok (.iload_n 1, 1) := by decide +kernel
theorem dX4_die_5 : decode cX4_die 5 = .ok (.iconst 0, 1) := by decide +kernel
theorem dX4_die_6 : decode cX4_die 6 = .ok (.bastore, 1) := by decide +kernel
theorem dX4_die_7 : decode cX4_die 7 = .ok (.aload_n 0, 1) := by decide +kernel
theorem dX4_die_8 : decode cX4_die 8 = .ok (.iload_n 1, 1) := by decide +kernel
theorem dX4_die_9 : decode cX4_die 9 = .ok (.invokevirtual 125, 3) := by decide +kernel
theorem dX4_die_12 : decode cX4_die 12 = .ok (.aload_n 0, 1) := by decide +kernel
theorem dX4_die_13 : decode cX4_die 13 = .ok (.iload_n 1, 1) := by decide +kernel
theorem dX4_die_14 : decode cX4_die 14 = .ok (.invokevirtual 129, 3) := by decide +kernel
theorem dX4_die_17 : decode cX4_die 17 = .ok (.istore_n 2, 1) := by decide +kernel
theorem dX4_die_18 : decode cX4_die 18 = .ok (.iconst 0, 1) := by decide +kernel
theorem dX4_die_19 : decode cX4_die 19 = .ok (.istore_n 3, 1) := by decide +kernel
theorem dX4_die_20 : decode cX4_die 20 = .ok (.iconst 0, 1) := by decide +kernel
theorem dX4_die_21 : decode cX4_die 21 = .ok (.istore 4, 2) := by decide +kernel
theorem dX4_die_23 : decode cX4_die 23 = .ok (.iload 4, 2) := by decide +kernel
theorem dX4_die_25 : decode cX4_die 25 = .ok (.aload_n 0, 1) := by decide +kernel
theorem dX4_die_26 : decode cX4_die 26 = .ok (.getfield 50, 3) := by decide +kernel
theorem dX4_die_29 : decode cX4_die 29 = .ok (.getfield 57, 3) := by decide +kernel
theorem dX4_die_32 : decode cX4_die 32 = .ok (.if_icmp .ge 101, 3) := by decide +kernel
theorem dX4_die_35 : decode cX4_die 35 = .ok (.iconst 0, 1) := by decide +kernel
theorem dX4_die_36 : decode cX4_die 36 = .ok (.istore 5, 2) := by decide +kernel
theorem dX4_die_38 : decode cX4_die 38 = .ok (.iload 5, 2) := by decide +kernel
theorem dX4_die_40 : decode cX4_die 40 = .ok (.iconst 2, 1) := by decide +kernel
theorem dX4_die_41 : decode cX4_die 41 = .ok (.if_icmp .ge 86, 3) := by decide +kernel
theorem dX4_die_44 : decode cX4_die 44 = .ok (.aload_n 0, 1) := by decide +kernel
theorem dX4_die_45 : decode cX4_die 45 = .ok (.getfield 22, 3) := by decide +kernel
theorem dX4_die_48 : decode cX4_die 48 = .ok (.iconst 2, 1) := by decide +kernel
theorem dX4_die_49 : decode cX4_die 49 = .ok (.iload 4, 2) := by decide +kernel
theorem dX4_die_51 : decode cX4_die 51 = .ok (.imul, 1) := by decide +kernel
theorem dX4_die_52 : decode cX4_die 52 = .ok (.iload 5, 2) := by decide +kernel
theorem dX4_die_54 : decode cX4_die 54 = .ok (.iadd, 1) := by decide +kernel
theorem dX4_die_55 : decode cX4_die 55 = .ok (.iaload, 1) := by decide +kernel
theorem dX4_die_56 : decode cX4_die 56 = .ok (.iload_n 1, 1) := by decide +kernel
theorem dX4_die_57 : decode cX4_die 57 = .ok (.if_icmp .ne 64, 3) := by decide +kernel
theorem dX4_die_60 : decode cX4_die 60 = .ok (.iload_n 2, 1) := by decide +kernel
theorem dX4_die_61 : decode cX4_die 61 = .ok (.iconst (-1), 1) := by decide +kernel
theorem dX4_die_62 : decode cX4_die 62 = .ok (.if_icmp .eq 21, 3) := by decide +kernel
theorem dX4_die_65 : decode cX4_die 65 = .ok (.aload_n 0, 1) := by decide +kernel
theorem dX4_die_66 : decode cX4_die 66 = .ok (.iload_n 2, 1) := by decide +kernel
theorem dX4_die_67 : decode cX4_die 67 = .ok (.iload 4, 2) := by decide +kernel
theorem dX4_die_69 : decode cX4_die 69 = .ok (.iconst 1, 1) := by decide +kernel
theorem dX4_die_70 : decode cX4_die 70 = .ok (.iload 5, 2) := by decide +kernel
theorem dX4_die_72 : decode cX4_die 72 = .ok (.isub, 1) := by decide +kernel
theorem dX4_die_73 : decode cX4_die 73 = .ok (.invokevirtual 71, 3) := by decide +kernel
theorem dX4_die_76 : decode cX4_die 76 = .ok (.ifCond .ne 7, 3) := by decide +kernel
theorem dX4_die_79 : decode cX4_die 79 = .ok (.iconst 1, 1) := by decide +kernel
theorem dX4_die_80 : decode cX4_die 80 = .ok (.goto 4, 3) := by decide +kernel
theorem dX4_die_83 : decode cX4_die 83 = .ok (.iconst 0, 1) := by decide +kernel
theorem dX4_die_84 : decode cX4_die 84 = .ok (.istore 6, 2) := by decide +kernel
theorem dX4_die_86 : decode cX4_die 86 = .ok (.aload_n 0, 1) := by decide +kernel
theorem dX4_die_87 : decode cX4_die 87 = .ok (.getfield 22, 3) := by decide +kernel
theorem dX4_die_90 : decode cX4_die 90 = .ok (.iconst 2, 1) := by decide +kernel
theorem dX4_die_91 : decode cX4_die 91 = .ok (.iload 4, 2) := by decide +kernel
theorem dX4_die_93 : decode cX4_die 93 = .ok (.imul, 1) := by decide +kernel
theorem dX4_die_94 : decode cX4_die 94 = .ok (.iload 5, 2) := by decide +kernel
theorem dX4_die_96 : decode cX4_die 96 = .ok (.iadd, 1) := by decide +kernel
theorem dX4_die_97 : decode cX4_die 97 = .ok (.iload 6, 2) := by decide +kernel
theorem dX4_die_99 : decode cX4_die 99 = .ok (.ifCond .eq 7, 3) := by decide +kernel
theorem dX4_die_102 : decode cX4_die 102 = .ok (.iload_n 2, 1) := by decide +kernel
theorem dX4_die_103 : decode cX4_die 103 = .ok (.goto 4, 3) := by decide +kernel
theorem dX4_die_106 : decode cX4_die 106 = .ok (.iconst (-1), 1) := by decide +kernel
theorem dX4_die_107 : decode cX4_die 107 = .ok (.iastore, 1) := by decide +kernel
theorem dX4_die_108 : decode cX4_die 108 = .ok (.iload_n 3, 1) := by decide +kernel
theorem dX4_die_109 : decode cX4_die 109 = .ok (.iload 6, 2) := by decide +kernel
theorem dX4_die_111 : decode cX4_die 111 = .ok (.ifCond .eq 7, 3) := by decide +kernel
theorem dX4_die_114 : decode cX4_die 114 = .ok (.iconst 1, 1) := by decide +kernel
theorem dX4_die_115 : decode cX4_die 115 = .ok (.goto 4, 3) := by decide +kernel
theorem dX4_die_118 : decode cX4_die 118 = .ok (.iconst 0, 1) := by decide +kernel
theorem dX4_die_119 : decode cX4_die 119 = .ok (.iadd, 1) := by decide +kernel
theorem dX4_die_120 : decode cX4_die 120 = .ok (.istore_n 3, 1) := by decide +kernel
theorem dX4_die_121 : decode cX4_die 121 = .ok (.iinc 5 1, 3) := by decide +kernel
theorem dX4_die_124 : decode cX4_die 124 = .ok (.goto (-86), 3) := by decide +kernel
theorem dX4_die_127 : decode cX4_die 127 = .ok (.iinc 4 1, 3) := by decide +kernel
theorem dX4_die_130 : decode cX4_die 130 = .ok (.goto (-107), 3) := by decide +kernel
theorem dX4_die_133 : decode cX4_die 133 = .ok (.iload_n 2, 1) := by decide +kernel
theorem dX4_die_134 : decode cX4_die 134 = .ok (.iconst (-1), 1) := by decide +kernel
theorem dX4_die_135 : decode cX4_die 135 = .ok (.if_icmp .eq 14, 3) := by decide +kernel
theorem dX4_die_138 : decode cX4_die 138 = .ok (.aload_n 0, 1) := by decide +kernel
theorem dX4_die_139 : decode cX4_die 139 = .ok (.iload_n 2, 1) := by decide +kernel
theorem dX4_die_140 : decode cX4_die 140 = .ok (.aload_n 0, 1) := by decide +kernel
theorem dX4_die_141 : decode cX4_die 141 = .ok (.getfield 9, 3) := by decide +kernel
theorem dX4_die_144 : decode cX4_die 144 = .ok (.iload_n 1, 1) := by decide +kernel
theorem dX4_die_145 : decode cX4_die 145 = .ok (.iaload, 1) := by decide +kernel
theorem dX4_die_146 : decode cX4_die 146 = .ok (.invokevirtual 99, 3) := by decide +kernel
theorem dX4_die_149 : decode cX4_die 149 = .ok (.aload_n 0, 1) := by decide +kernel
theorem dX4_die_150 : decode cX4_die 150 = .ok (.getfield 9, 3) := by decide +kernel
theorem dX4_die_153 : decode cX4_die 153 = .ok (.iload_n 1, 1) := by decide +kernel
theorem dX4_die_154 : decode cX4_die 154 = .ok (.iconst 0, 1) := by decide +kernel
theorem dX4_die_155 : decode cX4_die 155 = .ok (.iastore, 1) := by decide +kernel
theorem dX4_die_156 : decode cX4_die 156 = .ok (.iload_n 3, 1) := by decide +kernel
theorem dX4_die_157 : decode cX4_die 157 = .ok (.ireturn, 1) := by decide +kernel
theorem dX4_endLoansOf_0 : decode cX4_endLoansOf 0 = .ok (.iconst 0, 1) := by decide +kernel
theorem dX4_endLoansOf_1 : decode cX4_endLoansOf 1 = .ok (.istore_n 2, 1) := by decide +kernel
theorem dX4_endLoansOf_2 : decode cX4_endLoansOf 2 = .ok (.iload_n 2, 1) := by decide +kernel
theorem dX4_endLoansOf_3 : decode cX4_endLoansOf 3 = .ok (.bipush 16, 2) := by decide +kernel
theorem dX4_endLoansOf_5 : decode cX4_endLoansOf 5 = .ok (.if_icmp .ge 36, 3) := by decide +kernel
theorem dX4_endLoansOf_8 : decode cX4_endLoansOf 8 = .ok (.aload_n 0, 1) := by decide +kernel
theorem dX4_endLoansOf_9 : decode cX4_endLoansOf 9 = .ok (.getfield 25, 3) := by decide +kernel
theorem dX4_endLoansOf_12 : decode cX4_endLoansOf 12 = .ok (.iload_n 2, 1) := by decide +kernel
theorem dX4_endLoansOf_13 : decode cX4_endLoansOf 13 = .ok (.iaload, 1) := by decide +kernel
theorem dX4_endLoansOf_14 : decode cX4_endLoansOf 14 = .ok (.iload_n 1, 1) := by decide +kernel
theorem dX4_endLoansOf_15 : decode cX4_endLoansOf 15 = .ok (.if_icmp .eq 13, 3) := by decide +kernel
theorem dX4_endLoansOf_18 : decode cX4_endLoansOf 18 = .ok (.aload_n 0, 1) := by decide +kernel
theorem dX4_endLoansOf_19 : decode cX4_endLoansOf 19 = .ok (.getfield 22, 3) := by decide +kernel
theorem dX4_endLoansOf_22 : decode cX4_endLoansOf 22 = .ok (.iload_n 2, 1) := by decide +kernel
theorem dX4_endLoansOf_23 : decode cX4_endLoansOf 23 = .ok (.iaload, 1) := by decide +kernel
theorem dX4_endLoansOf_24 : decode cX4_endLoansOf 24 = .ok (.iload_n 1, 1) := by decide +kernel
theorem dX4_endLoansOf_25 : decode cX4_endLoansOf 25 = .ok (.if_icmp .ne 10, 3) := by decide +kernel
theorem dX4_endLoansOf_28 : decode cX4_endLoansOf 28 = .ok (.aload_n 0, 1) := by decide +kernel
theorem dX4_endLoansOf_29 : decode cX4_endLoansOf 29 = .ok (.getfield 25, 3) := by decide +kernel
theorem dX4_endLoansOf_32 : decode cX4_endLoansOf 32 = .ok (.iload_n 2, 1) := by decide +kernel
theorem dX4_endLoansOf_33 : decode cX4_endLoansOf 33 = .ok (.iconst (-1), 1) := by decide +kernel
theorem dX4_endLoansOf_34 : decode cX4_endLoansOf 34 = .ok (.iastore, 1) := by decide +kernel
theorem dX4_endLoansOf_35 : decode cX4_endLoansOf 35 = .ok (.iinc 2 1, 3) := by decide +kernel
theorem dX4_endLoansOf_38 : decode cX4_endLoansOf 38 = .ok (.goto (-36), 3) := by decide +kernel
theorem dX4_endLoansOf_41 : decode cX4_endLoansOf 41 = .ok (.return_, 1) := by decide +kernel
theorem dX4_inheritorOf_0 : decode cX4_inheritorOf 0 = .ok (.iconst 1, 1) := by decide +kernel
theorem dX4_inheritorOf_1 : decode cX4_inheritorOf 1 = .ok (.iload_n 1, 1) := by decide +kernel
theorem dX4_inheritorOf_2 : decode cX4_inheritorOf 2 = .ok (.ishl, 1) := by decide +kernel
theorem dX4_inheritorOf_3 : decode cX4_inheritorOf 3 = .ok (.istore_n 2, 1) := by decide +kernel
theorem dX4_inheritorOf_4 : decode cX4_inheritorOf 4 = .ok (.aload_n 0, 1) := by decide +kernel
theorem dX4_inheritorOf_5 : decode cX4_inheritorOf 5 = .ok (.getfield 15, 3) := by decide +kernel
theorem dX4_inheritorOf_8 : decode cX4_inheritorOf 8 = .ok (.iload_n 1, 1) := by decide +kernel
theorem dX4_inheritorOf_9 : decode cX4_inheritorOf 9 = .ok (.iaload, 1) := by decide +kernel
theorem dX4_inheritorOf_10 : decode cX4_inheritorOf 10 = .ok (.istore_n 3, 1) := by decide +kernel
theorem dX4_inheritorOf_11 : decode cX4_inheritorOf 11 = .ok (.iconst 0, 1) := by decide +kernel
theorem dX4_inheritorOf_12 : decode cX4_inheritorOf 12 = .ok (.istore 4, 2) := by decide +kernel
theorem dX4_inheritorOf_14 : decode cX4_inheritorOf 14 = .ok (.iload 4, 2) := by decide +kernel
theorem dX4_inheritorOf_16 : decode cX4_inheritorOf 16 = .ok (.bipush 6, 2) := by decide +kernel
theorem dX4_inheritorOf_18 : decode cX4_inheritorOf 18 = .ok (.if_icmp .ge 49, 3) := by decide +kernel
theorem dX4_inheritorOf_21 : decode cX4_inheritorOf 21 = .ok (.iload_n 3, 1) := by decide +kernel
theorem dX4_inheritorOf_22 : decode cX4_inheritorOf 22 = .ok (.iconst (-1), 1) := by decide +kernel
theorem dX4_inheritorOf_23 : decode cX4_inheritorOf 23 = .ok (.if_icmp .eq 12, 3) := by decide +kernel
theorem dX4_inheritorOf_26 : decode cX4_inheritorOf 26 = .ok (.iload_n 2, 1) := by decide +kernel
theorem dX4_inheritorOf_27 : decode cX4_inheritorOf 27 = .ok (.iload_n 3, 1) := by decide +kernel
theorem dX4_inheritorOf_28 : decode cX4_inheritorOf 28 = .ok (.ishr, 1) := by decide +kernel
theorem dX4_inheritorOf_29 : decode cX4_inheritorOf 29 = .ok (.iconst 1, 1) := by decide +kernel
theorem dX4_inheritorOf_30 : decode cX4_inheritorOf 30 = .ok (.iand, 1) := by decide +kernel
theorem dX4_inheritorOf_31 : decode cX4_inheritorOf 31 = .ok (.iconst 1, 1) := by decide +kernel
theorem dX4_inheritorOf_32 : decode cX4_inheritorOf 32 = .ok (.if_icmp .ne 5, 3) := by decide +kernel
theorem dX4_inheritorOf_35 : decode cX4_inheritorOf 35 = .ok (.iconst (-1), 1) := by decide +kernel
theorem dX4_inheritorOf_36 : decode cX4_inheritorOf 36 = .ok (.ireturn, 1) := by decide +kernel
theorem dX4_inheritorOf_37 : decode cX4_inheritorOf 37 = .ok (.aload_n 0, 1) := by decide +kernel
theorem dX4_inheritorOf_38 : decode cX4_inheritorOf 38 = .ok (.getfield 18, 3) := by decide +kernel
theorem dX4_inheritorOf_41 : decode cX4_inheritorOf 41 = .ok (.iload_n 3, 1) := by decide +kernel
theorem dX4_inheritorOf_42 : decode cX4_inheritorOf 42 = .ok (.baload, 1) := by decide +kernel
theorem dX4_inheritorOf_43 : decode cX4_inheritorOf 43 = .ok (.ifCond .eq 5, 3) := by decide +kernel
theorem dX4_inheritorOf_46 : decode cX4_inheritorOf 46 = .ok (.iload_n 3, 1) := by decide +kernel
theorem dX4_inheritorOf_47 : decode cX4_inheritorOf 47 = .ok (.ireturn, 1) := by decide +kernel
theorem dX4_inheritorOf_48 : decode cX4_inheritorOf 48 = .ok (.iload_n 2, 1) := by decide +kernel
theorem dX4_inheritorOf_49 : decode cX4_inheritorOf 49 = .ok (.iconst 1, 1) := by decide +kernel
theorem dX4_inheritorOf_50 : decode cX4_inheritorOf 50 = .ok (.iload_n 3, 1) := by decide +kernel
theorem dX4_inheritorOf_51 : decode cX4_inheritorOf 51 = .ok (.ishl, 1) := by decide +kernel
theorem dX4_inheritorOf_52 : decode cX4_inheritorOf 52 = .ok (.ior, 1) := by decide +kernel
theorem dX4_inheritorOf_53 : decode cX4_inheritorOf 53 = .ok (.istore_n 2, 1) := by decide +kernel
theorem dX4_inheritorOf_54 : decode cX4_inheritorOf 54 = .ok (.aload_n 0, 1) := by decide +kernel
theorem dX4_inheritorOf_55 : decode cX4_inheritorOf 55 = .ok (.getfield 15, 3) := by decide +kernel
theorem dX4_inheritorOf_58 : decode cX4_inheritorOf 58 = .ok (.iload_n 3, 1) := by decide +kernel
theorem dX4_inheritorOf_59 : decode cX4_inheritorOf 59 = .ok (.iaload, 1) := by decide +kernel
theorem dX4_inheritorOf_60 : decode cX4_inheritorOf 60 = .ok (.istore_n 3, 1) := by decide +kernel
theorem dX4_inheritorOf_61 : decode cX4_inheritorOf 61 = .ok (.iinc 4 1, 3) := by decide +kernel
theorem dX4_inheritorOf_64 : decode cX4_inheritorOf 64 = .ok (.goto (-50), 3) := by decide +kernel
theorem dX4_inheritorOf_67 : decode cX4_inheritorOf 67 = .ok (.iconst (-1), 1) := by decide +kernel
theorem dX4_inheritorOf_68 : decode cX4_inheritorOf 68 = .ok (.ireturn, 1) := by decide +kernel
theorem dX4_areOnBothSides_0 : decode cX4_areOnBothSides 0 = .ok (.aload_n 0, 1) := by decide +kernel
theorem dX4_areOnBothSides_1 : decode cX4_areOnBothSides 1 = .ok (.iload_n 1, 1) := by decide +kernel
theorem dX4_areOnBothSides_2 : decode cX4_areOnBothSides 2 = .ok (.iconst 0, 1) := by decide +kernel
theorem dX4_areOnBothSides_3 : decode cX4_areOnBothSides 3 = .ok (.invokevirtual 108, 3) := by decide +kernel
theorem dX4_areOnBothSides_6 : decode cX4_areOnBothSides 6 = .ok (.istore 4, 2) := by decide +kernel
theorem dX4_areOnBothSides_8 : decode cX4_areOnBothSides 8 = .ok (.aload_n 0, 1) := by decide +kernel
theorem dX4_areOnBothSides_9 : decode cX4_areOnBothSides 9 = .ok (.iload_n 1, 1) := by decide +kernel
theorem dX4_areOnBothSides_10 : decode cX4_areOnBothSides 10 = .ok (.iconst 1, 1) := by decide +kernel
theorem dX4_areOnBothSides_11 : decode cX4_areOnBothSides 11 = .ok (.invokevirtual 108, 3) := by decide +kernel
theorem dX4_areOnBothSides_14 : decode cX4_areOnBothSides 14 = .ok (.istore 5, 2) := by decide +kernel
theorem dX4_areOnBothSides_16 : decode cX4_areOnBothSides 16 = .ok (.iload 4, 2) := by decide +kernel
theorem dX4_areOnBothSides_18 : decode cX4_areOnBothSides 18 = .ok (.iload_n 2, 1) := by decide +kernel
theorem dX4_areOnBothSides_19 : decode cX4_areOnBothSides 19 = .ok (.if_icmp .ne 9, 3) := by decide +kernel
theorem dX4_areOnBothSides_22 : decode cX4_areOnBothSides 22 = .ok (.iload 5, 2) := by decide +kernel
theorem dX4_areOnBothSides_24 : decode cX4_areOnBothSides 24 = .ok (.iload_n 3, 1) := by decide +kernel
theorem dX4_areOnBothSides_25 : decode cX4_areOnBothSides 25 = .ok (.if_icmp .eq 15, 3) := by decide +kernel
theorem dX4_areOnBothSides_28 : decode cX4_areOnBothSides 28 = .ok (.iload 4, 2) := by decide +kernel
theorem dX4_areOnBothSides_30 : decode cX4_areOnBothSides 30 = .ok (.iload_n 3, 1) := by decide +kernel
theorem dX4_areOnBothSides_31 : decode cX4_areOnBothSides 31 = .ok (.if_icmp .ne 13, 3) := by decide +kernel
theorem dX4_areOnBothSides_34 : decode cX4_areOnBothSides 34 = .ok (.iload 5, 2) := by decide +kernel
theorem dX4_areOnBothSides_36 : decode cX4_areOnBothSides 36 = .ok (.iload_n 2, 1) := by decide +kernel
theorem dX4_areOnBothSides_37 : decode cX4_areOnBothSides 37 = .ok (.if_icmp .ne 7, 3) := by decide +kernel
theorem dX4_areOnBothSides_40 : decode cX4_areOnBothSides 40 = .ok (.iconst 1, 1) := by decide +kernel
theorem dX4_areOnBothSides_41 : decode cX4_areOnBothSides 41 = .ok (.goto 4, 3) := by decide +kernel
theorem dX4_areOnBothSides_44 : decode cX4_areOnBothSides 44 = .ok (.iconst 0, 1) := by decide +kernel
theorem dX4_areOnBothSides_45 : decode cX4_areOnBothSides 45 = .ok (.ireturn, 1) := by decide +kernel
theorem dX4_feudBetween_0 : decode cX4_feudBetween 0 = .ok (.iconst (-1), 1) := by decide +kernel
theorem dX4_feudBetween_1 : decode cX4_feudBetween 1 = .ok (.istore_n 3, 1) := by decide +kernel
theorem dX4_feudBetween_2 : decode cX4_feudBetween 2 = .ok (.aload_n 0, 1) := by decide +kernel
theorem dX4_feudBetween_3 : decode cX4_feudBetween 3 = .ok (.getfield 18, 3) := by decide +kernel
theorem dX4_feudBetween_6 : decode cX4_feudBetween 6 = .ok (.iload_n 1, 1) := by decide +kernel
theorem dX4_feudBetween_7 : decode cX4_feudBetween 7 = .ok (.baload, 1) := by decide +kernel
theorem dX4_feudBetween_8 : decode cX4_feudBetween 8 = .ok (.ifCond .eq 12, 3) := by decide +kernel
theorem dX4_feudBetween_11 : decode cX4_feudBetween 11 = .ok (.aload_n 0, 1) := by decide +kernel
theorem dX4_feudBetween_12 : decode cX4_feudBetween 12 = .ok (.getfield 18, 3) := by decide +kernel
theorem dX4_feudBetween_15 : decode cX4_feudBetween 15 = .ok (.iload_n 2, 1) := by decide +kernel
theorem dX4_feudBetween_16 : decode cX4_feudBetween 16 = .ok (.baload, 1) := by decide +kernel
theorem dX4_feudBetween_17 : decode cX4_feudBetween 17 = .ok (.ifCond .ne 5, 3) := by decide +kernel
theorem dX4_feudBetween_20 : decode cX4_feudBetween 20 = .ok (.iconst (-1), 1) := by decide +kernel
theorem dX4_feudBetween_21 : decode cX4_feudBetween 21 = .ok (.ireturn, 1) := by decide +kernel
theorem dX4_feudBetween_22 : decode cX4_feudBetween 22 = .ok (.iconst 0, 1) := by decide +kernel
theorem dX4_feudBetween_23 : decode cX4_feudBetween 23 = .ok (.istore 4, 2) := by decide +kernel
theorem dX4_feudBetween_25 : decode cX4_feudBetween 25 = .ok (.iload 4, 2) := by decide +kernel
theorem dX4_feudBetween_27 : decode cX4_feudBetween 27 = .ok (.aload_n 0, 1) := by decide +kernel
theorem dX4_feudBetween_28 : decode cX4_feudBetween 28 = .ok (.getfield 50, 3) := by decide +kernel
theorem dX4_feudBetween_31 : decode cX4_feudBetween 31 = .ok (.getfield 57, 3) := by decide +kernel
theorem dX4_feudBetween_34 : decode cX4_feudBetween 34 = .ok (.if_icmp .ge 56, 3) := by decide +kernel
theorem dX4_feudBetween_37 : decode cX4_feudBetween 37 = .ok (.aload_n 0, 1) := by decide +kernel
theorem dX4_feudBetween_38 : decode cX4_feudBetween 38 = .ok (.iload 4, 2) := by decide +kernel
theorem dX4_feudBetween_40 : decode cX4_feudBetween 40 = .ok (.iload_n 1, 1) := by decide +kernel
theorem dX4_feudBetween_41 : decode cX4_feudBetween 41 = .ok (.iload_n 2, 1) := by decide +kernel
theorem dX4_feudBetween_42 : decode cX4_feudBetween 42 = .ok (.invokevirtual 133, 3) := by decide +kernel
theorem dX4_feudBetween_45 : decode cX4_feudBetween 45 = .ok (.ifCond .eq 39, 3) := by decide +kernel
theorem dX4_feudBetween_48 : decode cX4_feudBetween 48 = .ok (.iload_n 3, 1) := by decide +kernel
theorem dX4_feudBetween_49 : decode cX4_feudBetween 49 = .ok (.iconst (-1), 1) := by decide +kernel
theorem dX4_feudBetween_50 : decode cX4_feudBetween 50 = .ok (.if_icmp .eq 31, 3) := by decide +kernel
theorem dX4_feudBetween_53 : decode cX4_feudBetween 53 = .ok (.aload_n 0, 1) := by decide +kernel
theorem dX4_feudBetween_54 : decode cX4_feudBetween 54 = .ok (.getfield 50, 3) := by decide +kernel
theorem dX4_feudBetween_57 : decode cX4_feudBetween 57 = .ok (.getfield 75, 3) := by decide +kernel
theorem dX4_feudBetween_60 : decode cX4_feudBetween 60 = .ok (.iload 4, 2) := by decide +kernel
theorem dX4_feudBetween_62 : decode cX4_feudBetween 62 = .ok (.aaload, 1) := by decide +kernel
theorem dX4_feudBetween_63 : decode cX4_feudBetween 63 = .ok (.getfield 136, 3) := by decide +kernel
theorem dX4_feudBetween_66 : decode cX4_feudBetween 66 = .ok (.aload_n 0, 1) := by decide +kernel
theorem dX4_feudBetween_67 : decode cX4_feudBetween 67 = .ok (.getfield 50, 3) := by decide +kernel
theorem dX4_feudBetween_70 : decode cX4_feudBetween 70 = .ok (.getfield 75, 3) := by decide +kernel
theorem dX4_feudBetween_73 : decode cX4_feudBetween 73 = .ok (.iload_n 3, 1) := by decide +kernel
theorem dX4_feudBetween_74 : decode cX4_feudBetween 74 = .ok (.aaload, 1) := by decide +kernel
theorem dX4_feudBetween_75 : decode cX4_feudBetween 75 = .ok (.getfield 136, 3) := by decide +kernel
theorem dX4_feudBetween_78 : decode cX4_feudBetween 78 = .ok (.if_icmp .le 6, 3) := by decide +kernel
theorem dX4_feudBetween_81 : decode cX4_feudBetween 81 = .ok (.iload 4, 2) := by decide +kernel
theorem dX4_feudBetween_83 : decode cX4_feudBetween 83 = .ok (.istore_n 3, 1) := by decide +kernel
theorem dX4_feudBetween_84 : decode cX4_feudBetween 84 = .ok (.iinc 4 1, 3) := by decide +kernel
theorem dX4_feudBetween_87 : decode cX4_feudBetween 87 = .ok (.goto (-62), 3) := by decide +kernel
theorem dX4_feudBetween_90 : decode cX4_feudBetween 90 = .ok (.iload_n 3, 1) := by decide +kernel
theorem dX4_feudBetween_91 : decode cX4_feudBetween 91 = .ok (.ireturn, 1) := by decide +kernel
theorem dX4_feudsShared_0 : decode cX4_feudsShared 0 = .ok (.iconst 0, 1) := by decide +kernel
theorem dX4_feudsShared_1 : decode cX4_feudsShared 1 = .ok (.istore_n 3, 1) := by decide +kernel
theorem dX4_feudsShared_2 : decode cX4_feudsShared 2 = .ok (.iconst 0, 1) := by decide +kernel
theorem dX4_feudsShared_3 : decode cX4_feudsShared 3 = .ok (.istore 4, 2) := by decide +kernel
theorem dX4_feudsShared_5 : decode cX4_feudsShared 5 = .ok (.iload 4, 2) := by decide +kernel
theorem dX4_feudsShared_7 : decode cX4_feudsShared 7 = .ok (.aload_n 0, 1) := by decide +kernel
theorem dX4_feudsShared_8 : decode cX4_feudsShared 8 = .ok (.getfield 50, 3) := by decide +kernel
theorem dX4_feudsShared_11 : decode cX4_feudsShared 11 = .ok (.getfield 57, 3) := by decide +kernel
theorem dX4_feudsShared_14 : decode cX4_feudsShared 14 = .ok (.if_icmp .ge 23, 3) := by decide +kernel
theorem dX4_feudsShared_17 : decode cX4_feudsShared 17 = .ok (.aload_n 0, 1) := by decide +kernel
theorem dX4_feudsShared_18 : decode cX4_feudsShared 18 = .ok (.iload 4, 2) := by decide +kernel
theorem dX4_feudsShared_20 : decode cX4_feudsShared 20 = .ok (.iload_n 1, 1) := by decide +kernel
theorem dX4_feudsShared_21 : decode cX4_feudsShared 21 = .ok (.iload_n 2, 1) := by decide +kernel
theorem dX4_feudsShared_22 : decode cX4_feudsShared 22 = .ok (.invokevirtual 133, 3) := by decide +kernel
theorem dX4_feudsShared_25 : decode cX4_feudsShared 25 = .ok (.ifCond .eq 6, 3) := by decide +kernel
theorem dX4_feudsShared_28 : decode cX4_feudsShared 28 = .ok (.iinc 3 1, 3) := by decide +kernel
theorem dX4_feudsShared_31 : decode cX4_feudsShared 31 = .ok (.iinc 4 1, 3) := by decide +kernel
theorem dX4_feudsShared_34 : decode cX4_feudsShared 34 = .ok (.goto (-29), 3) := by decide +kernel
theorem dX4_feudsShared_37 : decode cX4_feudsShared 37 = .ok (.iload_n 3, 1) := by decide +kernel
theorem dX4_feudsShared_38 : decode cX4_feudsShared 38 = .ok (.ireturn, 1) := by decide +kernel
theorem dX4_keepHarm_0 : decode cX4_keepHarm 0 = .ok (.aload_n 0, 1) := by decide +kernel
theorem dX4_keepHarm_1 : decode cX4_keepHarm 1 = .ok (.getfield 37, 3) := by decide +kernel
theorem dX4_keepHarm_4 : decode cX4_keepHarm 4 = .ok (.bipush 12, 2) := by decide +kernel
theorem dX4_keepHarm_6 : decode cX4_keepHarm 6 = .ok (.if_icmp .lt 5, 3) := by decide +kernel
theorem dX4_keepHarm_9 : decode cX4_keepHarm 9 = .ok (.iconst 0, 1) := by decide +kernel
theorem dX4_keepHarm_10 : decode cX4_keepHarm 10 = .ok (.ireturn, 1) := by decide +kernel
theorem dX4_keepHarm_11 : decode cX4_keepHarm 11 = .ok (.aload_n 0, 1) := by decide +kernel
theorem dX4_keepHarm_12 : decode cX4_keepHarm 12 = .ok (.getfield 31, 3) := by decide +kernel
theorem dX4_keepHarm_15 : decode cX4_keepHarm 15 = .ok (.aload_n 0, 1) := by decide +kernel
theorem dX4_keepHarm_16 : decode cX4_keepHarm 16 = .ok (.getfield 37, 3) := by decide +kernel
theorem dX4_keepHarm_19 : decode cX4_keepHarm 19 = .ok (.iload_n 1, 1) := by decide +kernel
theorem dX4_keepHarm_20 : decode cX4_keepHarm 20 = .ok (.iastore, 1) := by decide +kernel
theorem dX4_keepHarm_21 : decode cX4_keepHarm 21 = .ok (.aload_n 0, 1) := by decide +kernel
theorem dX4_keepHarm_22 : decode cX4_keepHarm 22 = .ok (.getfield 34, 3) := by decide +kernel
theorem dX4_keepHarm_25 : decode cX4_keepHarm 25 = .ok (.aload_n 0, 1) := by decide +kernel
theorem dX4_keepHarm_26 : decode cX4_keepHarm 26 = .ok (.getfield 37, 3) := by decide +kernel
theorem dX4_keepHarm_29 : decode cX4_keepHarm 29 = .ok (.iload_n 2, 1) := by decide +kernel
theorem dX4_keepHarm_30 : decode cX4_keepHarm 30 = .ok (.iastore, 1) := by decide +kernel
theorem dX4_keepHarm_31 : decode cX4_keepHarm 31 = .ok (.aload_n 0, 1) := by decide +kernel
theorem dX4_keepHarm_32 : decode cX4_keepHarm 32 = .ok (.dup, 1) := by decide +kernel
theorem dX4_keepHarm_33 : decode cX4_keepHarm 33 = .ok (.getfield 37, 3) := by decide +kernel
theorem dX4_keepHarm_36 : decode cX4_keepHarm 36 = .ok (.iconst 1, 1) := by decide +kernel
theorem dX4_keepHarm_37 : decode cX4_keepHarm 37 = .ok (.iadd, 1) := by decide +kernel
theorem dX4_keepHarm_38 : decode cX4_keepHarm 38 = .ok (.putfield 37, 3) := by decide +kernel
theorem dX4_keepHarm_41 : decode cX4_keepHarm 41 = .ok (.iconst 1, 1) := by decide +kernel
theorem dX4_keepHarm_42 : decode cX4_keepHarm 42 = .ok (.ireturn, 1) := by decide +kernel
theorem dX4_keepRegister_0 : decode cX4_keepRegister 0 = .ok (.aload_n 0, 1) := by decide +kernel
theorem dX4_keepRegister_1 : decode cX4_keepRegister 1 = .ok (.getfield 47, 3) := by decide +kernel
theorem dX4_keepRegister_4 : decode cX4_keepRegister 4 = .ok (.bipush 8, 2) := by decide +kernel
theorem dX4_keepRegister_6 : decode cX4_keepRegister 6 = .ok (.if_icmp .lt 5, 3) := by decide +kernel
theorem dX4_keepRegister_9 : decode cX4_keepRegister 9 = .ok (.iconst 0, 1) := by decide +kernel
theorem dX4_keepRegister_10 : decode cX4_keepRegister 10 = .ok (.ireturn, 1) := by decide +kernel
theorem dX4_keepRegister_11 : decode cX4_keepRegister 11 = .ok (.aload_n 0, 1) := by decide +kernel
theorem dX4_keepRegister_12 : decode cX4_keepRegister 12 = .ok (.getfield 41, 3) := by decide +kernel
theorem dX4_keepRegister_15 : decode cX4_keepRegister 15 = .ok (.aload_n 0, 1) := by decide +kernel
theorem dX4_keepRegister_16 : decode cX4_keepRegister 16 = .ok (.getfield 47, 3) := by decide +kernel
theorem dX4_keepRegister_19 : decode cX4_keepRegister 19 = .ok (.iload_n 1, 1) := by decide +kernel
theorem dX4_keepRegister_20 : decode cX4_keepRegister 20 = .ok (.iastore, 1) := by decide +kernel
theorem dX4_keepRegister_21 : decode cX4_keepRegister 21 = .ok (.aload_n 0, 1) := by decide +kernel
theorem dX4_keepRegister_22 : decode cX4_keepRegister 22 = .ok (.getfield 44, 3) := by decide +kernel
theorem dX4_keepRegister_25 : decode cX4_keepRegister 25 = .ok (.aload_n 0, 1) := by decide +kernel
theorem dX4_keepRegister_26 : decode cX4_keepRegister 26 = .ok (.getfield 47, 3) := by decide +kernel
theorem dX4_keepRegister_29 : decode cX4_keepRegister 29 = .ok (.iload_n 2, 1) := by decide +kernel
theorem dX4_keepRegister_30 : decode cX4_keepRegister 30 = .ok (.iastore, 1) := by decide +kernel
theorem dX4_keepRegister_31 : decode cX4_keepRegister 31 = .ok (.aload_n 0, 1) := by decide +kernel
theorem dX4_keepRegister_32 : decode cX4_keepRegister 32 = .ok (.dup, 1) := by decide +kernel
theorem dX4_keepRegister_33 : decode cX4_keepRegister 33 = .ok (.getfield 47, 3) := by decide +kernel
theorem dX4_keepRegister_36 : decode cX4_keepRegister 36 = .ok (.iconst 1, 1) := by decide +kernel
theorem dX4_keepRegister_37 : decode cX4_keepRegister 37 = .ok (.iadd, 1) := by decide +kernel
theorem dX4_keepRegister_38 : decode cX4_keepRegister 38 = .ok (.putfield 47, 3) := by decide +kernel
theorem dX4_keepRegister_41 : decode cX4_keepRegister 41 = .ok (.iconst 1, 1) := by decide +kernel
theorem dX4_keepRegister_42 : decode cX4_keepRegister 42 = .ok (.ireturn, 1) := by decide +kernel
theorem dX4_registersFit_0 : decode cX4_registersFit 0 = .ok (.iconst 0, 1) := by decide +kernel
theorem dX4_registersFit_1 : decode cX4_registersFit 1 = .ok (.istore_n 3, 1) := by decide +kernel
theorem dX4_registersFit_2 : decode cX4_registersFit 2 = .ok (.iload_n 3, 1) := by decide +kernel
theorem dX4_registersFit_3 : decode cX4_registersFit 3 = .ok (.aload_n 0, 1) := by decide +kernel
theorem dX4_registersFit_4 : decode cX4_registersFit 4 = .ok (.getfield 47, 3) := by decide +kernel
theorem dX4_registersFit_7 : decode cX4_registersFit 7 = .ok (.if_icmp .ge 74, 3) := by decide +kernel
theorem dX4_registersFit_10 : decode cX4_registersFit 10 = .ok (.aload_n 0, 1) := by decide +kernel
theorem dX4_registersFit_11 : decode cX4_registersFit 11 = .ok (.getfield 41, 3) := by decide +kernel
theorem dX4_registersFit_14 : decode cX4_registersFit 14 = .ok (.iload_n 3, 1) := by decide +kernel
theorem dX4_registersFit_15 : decode cX4_registersFit 15 = .ok (.iaload, 1) := by decide +kernel
theorem dX4_registersFit_16 : decode cX4_registersFit 16 = .ok (.istore 4, 2) := by decide +kernel
theorem dX4_registersFit_18 : decode cX4_registersFit 18 = .ok (.aload_n 0, 1) := by decide +kernel
theorem dX4_registersFit_19 : decode cX4_registersFit 19 = .ok (.getfield 44, 3) := by decide +kernel
theorem dX4_registersFit_22 : decode cX4_registersFit 22 = .ok (.iload_n 3, 1) := by decide +kernel
theorem dX4_registersFit_23 : decode cX4_registersFit 23 = .ok (.iaload, 1) := by decide +kernel
theorem dX4_registersFit_24 : decode cX4_registersFit 24 = .ok (.istore 5, 2) := by decide +kernel
theorem dX4_registersFit_26 : decode cX4_registersFit 26 = .ok (.iload 4, 2) := by decide +kernel
theorem dX4_registersFit_28 : decode cX4_registersFit 28 = .ok (.iload_n 1, 1) := by decide +kernel
theorem dX4_registersFit_29 : decode cX4_registersFit 29 = .ok (.if_icmp .ne 9, 3) := by decide +kernel
theorem dX4_registersFit_32 : decode cX4_registersFit 32 = .ok (.iload 5, 2) := by decide +kernel
theorem dX4_registersFit_34 : decode cX4_registersFit 34 = .ok (.iload_n 2, 1) := by decide +kernel
theorem dX4_registersFit_35 : decode cX4_registersFit 35 = .ok (.if_icmp .eq 15, 3) := by decide +kernel
theorem dX4_registersFit_38 : decode cX4_registersFit 38 = .ok (.iload 4, 2) := by decide +kernel
theorem dX4_registersFit_40 : decode cX4_registersFit 40 = .ok (.iload_n 2, 1) := by decide +kernel
theorem dX4_registersFit_41 : decode cX4_registersFit 41 = .ok (.if_icmp .ne 13, 3) := by decide +kernel
theorem dX4_registersFit_44 : decode cX4_registersFit 44 = .ok (.iload 5, 2) := by decide +kernel
theorem dX4_registersFit_46 : decode cX4_registersFit 46 = .ok (.iload_n 1, 1) := by decide +kernel
theorem dX4_registersFit_47 : decode cX4_registersFit 47 = .ok (.if_icmp .ne 7, 3) := by decide +kernel
theorem dX4_registersFit_50 : decode cX4_registersFit 50 = .ok (.iconst 1, 1) := by decide +kernel
theorem dX4_registersFit_51 : decode cX4_registersFit 51 = .ok (.goto 4, 3) := by decide +kernel
theorem dX4_registersFit_54 : decode cX4_registersFit 54 = .ok (.iconst 0, 1) := by decide +kernel
theorem dX4_registersFit_55 : decode cX4_registersFit 55 = .ok (.istore 6, 2) := by decide +kernel
theorem dX4_registersFit_57 : decode cX4_registersFit 57 = .ok (.iload 6, 2) := by decide +kernel
theorem dX4_registersFit_59 : decode cX4_registersFit 59 = .ok (.ifCond .ne 16, 3) := by decide +kernel
theorem dX4_registersFit_62 : decode cX4_registersFit 62 = .ok (.aload_n 0, 1) := by decide +kernel
theorem dX4_registersFit_63 : decode cX4_registersFit 63 = .ok (.iload 4, 2) := by decide +kernel
theorem dX4_registersFit_65 : decode cX4_registersFit 65 = .ok (.iload 5, 2) := by decide +kernel
theorem dX4_registersFit_67 : decode cX4_registersFit 67 = .ok (.invokevirtual 139, 3) := by decide +kernel
theorem dX4_registersFit_70 : decode cX4_registersFit 70 = .ok (.ifCond .ne 5, 3) := by decide +kernel
theorem dX4_registersFit_73 : decode cX4_registersFit 73 = .ok (.iconst 0, 1) := by decide +kernel
theorem dX4_registersFit_74 : decode cX4_registersFit 74 = .ok (.ireturn, 1) := by decide +kernel
theorem dX4_registersFit_75 : decode cX4_registersFit 75 = .ok (.iinc 3 1, 3) := by decide +kernel
theorem dX4_registersFit_78 : decode cX4_registersFit 78 = .ok (.goto (-76), 3) := by decide +kernel
theorem dX4_registersFit_81 : decode cX4_registersFit 81 = .ok (.iconst 1, 1) := by decide +kernel
theorem dX4_registersFit_82 : decode cX4_registersFit 82 = .ok (.ireturn, 1) := by decide +kernel
theorem dX4_endSeason_0 : decode cX4_endSeason 0 = .ok (.aload_n 0, 1) := by decide +kernel
theorem dX4_endSeason_1 : decode cX4_endSeason 1 = .ok (.invokevirtual 142, 3) := by decide +kernel
theorem dX4_endSeason_4 : decode cX4_endSeason 4 = .ok (.istore_n 1, 1) := by decide +kernel
theorem dX4_endSeason_5 : decode cX4_endSeason 5 = .ok (.iconst 0, 1) := by decide +kernel
theorem dX4_endSeason_6 : decode cX4_endSeason 6 = .ok (.istore_n 2, 1) := by decide +kernel
theorem dX4_endSeason_7 : decode cX4_endSeason 7 = .ok (.iload_n 2, 1) := by decide +kernel
theorem dX4_endSeason_8 : decode cX4_endSeason 8 = .ok (.bipush 16, 2) := by decide +kernel
theorem dX4_endSeason_10 : decode cX4_endSeason 10 = .ok (.if_icmp .ge 16, 3) := by decide +kernel
theorem dX4_endSeason_13 : decode cX4_endSeason 13 = .ok (.aload_n 0, 1) := by decide +kernel
theorem dX4_endSeason_14 : decode cX4_endSeason 14 = .ok (.getfield 25, 3) := by decide +kernel
theorem dX4_endSeason_17 : decode cX4_endSeason 17 = .ok (.iload_n 2, 1) := by decide +kernel
theorem dX4_endSeason_18 : decode cX4_endSeason 18 = .ok (.iconst (-1), 1) := by decide +kernel
theorem dX4_endSeason_19 : decode cX4_endSeason 19 = .ok (.iastore, 1) := by decide +kernel
theorem dX4_endSeason_20 : decode cX4_endSeason 20 = .ok (.iinc 2 1, 3) := by decide +kernel
theorem dX4_endSeason_23 : decode cX4_endSeason 23 = .ok (.goto (-16), 3) := by decide +kernel
theorem dX4_endSeason_26 : decode cX4_endSeason 26 = .ok (.iconst 0, 1) := by decide +kernel
theorem dX4_endSeason_27 : decode cX4_endSeason 27 = .ok (.istore_n 2, 1) := by decide +kernel
theorem dX4_endSeason_28 : decode cX4_endSeason 28 = .ok (.iload_n 2, 1) := by decide +kernel
theorem dX4_endSeason_29 : decode cX4_endSeason 29 = .ok (.bipush 6, 2) := by decide +kernel
theorem dX4_endSeason_31 : decode cX4_endSeason 31 = .ok (.if_icmp .ge 24, 3) := by decide +kernel
theorem dX4_endSeason_34 : decode cX4_endSeason 34 = .ok (.aload_n 0, 1) := by decide +kernel
theorem dX4_endSeason_35 : decode cX4_endSeason 35 = .ok (.getfield 18, 3) := by decide +kernel
theorem dX4_endSeason_38 : decode cX4_endSeason 38 = .ok (.iload_n 2, 1) := by decide +kernel
theorem dX4_endSeason_39 : decode cX4_endSeason 39 = .ok (.baload, 1) := by decide +kernel
theorem dX4_endSeason_40 : decode cX4_endSeason 40 = .ok (.ifCond .eq 9, 3) := by decide +kernel
theorem dX4_endSeason_43 : decode cX4_endSeason 43 = .ok (.aload_n 0, 1) := by decide +kernel
theorem dX4_endSeason_44 : decode cX4_endSeason 44 = .ok (.iload_n 2, 1) := by decide +kernel
theorem dX4_endSeason_45 : decode cX4_endSeason 45 = .ok (.iconst 2, 1) := by decide +kernel
theorem dX4_endSeason_46 : decode cX4_endSeason 46 = .ok (.invokevirtual 99, 3) := by decide +kernel
theorem dX4_endSeason_49 : decode cX4_endSeason 49 = .ok (.iinc 2 1, 3) := by decide +kernel
theorem dX4_endSeason_52 : decode cX4_endSeason 52 = .ok (.goto (-24), 3) := by decide +kernel
theorem dX4_endSeason_55 : decode cX4_endSeason 55 = .ok (.iload_n 1, 1) := by decide +kernel
theorem dX4_endSeason_56 : decode cX4_endSeason 56 = .ok (.ireturn, 1) := by decide +kernel
theorem dX4_sidesOf_0 : decode cX4_sidesOf 0 = .ok (.iconst 0, 1) := by decide +kernel
theorem dX4_sidesOf_1 : decode cX4_sidesOf 1 = .ok (.istore_n 2, 1) := by decide +kernel
theorem dX4_sidesOf_2 : decode cX4_sidesOf 2 = .ok (.iconst 0, 1) := by decide +kernel
theorem dX4_sidesOf_3 : decode cX4_sidesOf 3 = .ok (.istore_n 3, 1) := by decide +kernel
theorem dX4_sidesOf_4 : decode cX4_sidesOf 4 = .ok (.iload_n 3, 1) := by decide +kernel
theorem dX4_sidesOf_5 : decode cX4_sidesOf 5 = .ok (.aload_n 0, 1) := by decide +kernel
theorem dX4_sidesOf_6 : decode cX4_sidesOf 6 = .ok (.getfield 50, 3) := by decide +kernel
theorem dX4_sidesOf_9 : decode cX4_sidesOf 9 = .ok (.getfield 57, 3) := by decide +kernel
theorem dX4_sidesOf_12 : decode cX4_sidesOf 12 = .ok (.if_icmp .ge 46, 3) := by decide +kernel
theorem dX4_sidesOf_15 : decode cX4_sidesOf 15 = .ok (.iconst 0, 1) := by decide +kernel
theorem dX4_sidesOf_16 : decode cX4_sidesOf 16 = .ok (.istore 4, 2) := by decide +kernel
theorem dX4_sidesOf_18 : decode cX4_sidesOf 18 = .ok (.iload 4, 2) := by decide +kernel
theorem dX4_sidesOf_20 : decode cX4_sidesOf 20 = .ok (.iconst 2, 1) := by decide +kernel
theorem dX4_sidesOf_21 : decode cX4_sidesOf 21 = .ok (.if_icmp .ge 31, 3) := by decide +kernel
theorem dX4_sidesOf_24 : decode cX4_sidesOf 24 = .ok (.aload_n 0, 1) := by decide +kernel
theorem dX4_sidesOf_25 : decode cX4_sidesOf 25 = .ok (.iload_n 3, 1) := by decide +kernel
theorem dX4_sidesOf_26 : decode cX4_sidesOf 26 = .ok (.iload 4, 2) := by decide +kernel
theorem dX4_sidesOf_28 : decode cX4_sidesOf 28 = .ok (.invokevirtual 108, 3) := by decide +kernel
theorem dX4_sidesOf_31 : decode cX4_sidesOf 31 = .ok (.iload_n 1, 1) := by decide +kernel
theorem dX4_sidesOf_32 : decode cX4_sidesOf 32 = .ok (.if_icmp .ne 14, 3) := by decide +kernel
theorem dX4_sidesOf_35 : decode cX4_sidesOf 35 = .ok (.iload_n 2, 1) := by decide +kernel
theorem dX4_sidesOf_36 : decode cX4_sidesOf 36 = .ok (.iconst 1, 1) := by decide +kernel
theorem dX4_sidesOf_37 : decode cX4_sidesOf 37 = .ok (.iconst 2, 1) := by decide +kernel
theorem dX4_sidesOf_38 : decode cX4_sidesOf 38 = .ok (.iload_n 3, 1) := by decide +kernel
theorem dX4_sidesOf_39 : decode cX4_sidesOf 39 = .ok (.imul, 1) := by decide +kernel
theorem dX4_sidesOf_40 : decode cX4_sidesOf 40 = .ok (.iload 4, 2) := by decide +kernel
theorem dX4_sidesOf_42 : decode cX4_sidesOf 42 = .ok (.iadd, 1) := by decide +kernel
theorem dX4_sidesOf_43 : decode cX4_sidesOf 43 = .ok (.ishl, 1) := by decide +kernel
theorem dX4_sidesOf_44 : decode cX4_sidesOf 44 = .ok (.ior, 1) := by decide +kernel
theorem dX4_sidesOf_45 : decode cX4_sidesOf 45 = .ok (.istore_n 2, 1) := by decide +kernel
theorem dX4_sidesOf_46 : decode cX4_sidesOf 46 = .ok (.iinc 4 1, 3) := by decide +kernel
theorem dX4_sidesOf_49 : decode cX4_sidesOf 49 = .ok (.goto (-31), 3) := by decide +kernel
theorem dX4_sidesOf_52 : decode cX4_sidesOf 52 = .ok (.iinc 3 1, 3) := by decide +kernel
theorem dX4_sidesOf_55 : decode cX4_sidesOf 55 = .ok (.goto (-51), 3) := by decide +kernel
theorem dX4_sidesOf_58 : decode cX4_sidesOf 58 = .ok (.iload_n 2, 1) := by decide +kernel
theorem dX4_sidesOf_59 : decode cX4_sidesOf 59 = .ok (.ireturn, 1) := by decide +kernel
theorem dX4_struckFeuds_0 : decode cX4_struckFeuds 0 = .ok (.iconst 0, 1) := by decide +kernel
theorem dX4_struckFeuds_1 : decode cX4_struckFeuds 1 = .ok (.istore_n 1, 1) := by decide +kernel
theorem dX4_struckFeuds_2 : decode cX4_struckFeuds 2 = .ok (.iconst 0, 1) := by decide +kernel
theorem dX4_struckFeuds_3 : decode cX4_struckFeuds 3 = .ok (.istore_n 2, 1) := by decide +kernel
theorem dX4_struckFeuds_4 : decode cX4_struckFeuds 4 = .ok (.iload_n 2, 1) := by decide +kernel
theorem dX4_struckFeuds_5 : decode cX4_struckFeuds 5 = .ok (.aload_n 0, 1) := by decide +kernel
theorem dX4_struckFeuds_6 : decode cX4_struckFeuds 6 = .ok (.getfield 50, 3) := by decide +kernel
theorem dX4_struckFeuds_9 : decode cX4_struckFeuds 9 = .ok (.getfield 57, 3) := by decide +kernel
theorem dX4_struckFeuds_12 : decode cX4_struckFeuds 12 = .ok (.if_icmp .ge 26, 3) := by decide +kernel
theorem dX4_struckFeuds_15 : decode cX4_struckFeuds 15 = .ok (.iload_n 1, 1) := by decide +kernel
theorem dX4_struckFeuds_16 : decode cX4_struckFeuds 16 = .ok (.aload_n 0, 1) := by decide +kernel
theorem dX4_struckFeuds_17 : decode cX4_struckFeuds 17 = .ok (.getfield 28, 3) := by decide +kernel
theorem dX4_struckFeuds_20 : decode cX4_struckFeuds 20 = .ok (.iload_n 2, 1) := by decide +kernel
theorem dX4_struckFeuds_21 : decode cX4_struckFeuds 21 = .ok (.baload, 1) := by decide +kernel
theorem dX4_struckFeuds_22 : decode cX4_struckFeuds 22 = .ok (.ifCond .eq 7, 3) := by decide +kernel
theorem dX4_struckFeuds_25 : decode cX4_struckFeuds 25 = .ok (.iconst 1, 1) := by decide +kernel
theorem dX4_struckFeuds_26 : decode cX4_struckFeuds 26 = .ok (.goto 4, 3) := by decide +kernel
theorem dX4_struckFeuds_29 : decode cX4_struckFeuds 29 = .ok (.iconst 0, 1) := by decide +kernel
theorem dX4_struckFeuds_30 : decode cX4_struckFeuds 30 = .ok (.iadd, 1) := by decide +kernel
theorem dX4_struckFeuds_31 : decode cX4_struckFeuds 31 = .ok (.istore_n 1, 1) := by decide +kernel
theorem dX4_struckFeuds_32 : decode cX4_struckFeuds 32 = .ok (.iinc 2 1, 3) := by decide +kernel
theorem dX4_struckFeuds_35 : decode cX4_struckFeuds 35 = .ok (.goto (-31), 3) := by decide +kernel
theorem dX4_struckFeuds_38 : decode cX4_struckFeuds 38 = .ok (.iload_n 1, 1) := by decide +kernel
theorem dX4_struckFeuds_39 : decode cX4_struckFeuds 39 = .ok (.ireturn, 1) := by decide +kernel
theorem dX4_peopleAlive_0 : decode cX4_peopleAlive 0 = .ok (.iconst 0, 1) := by decide +kernel
theorem dX4_peopleAlive_1 : decode cX4_peopleAlive 1 = .ok (.istore_n 1, 1) := by decide +kernel
theorem dX4_peopleAlive_2 : decode cX4_peopleAlive 2 = .ok (.iconst 0, 1) := by decide +kernel
theorem dX4_peopleAlive_3 : decode cX4_peopleAlive 3 = .ok (.istore_n 2, 1) := by decide +kernel
theorem dX4_peopleAlive_4 : decode cX4_peopleAlive 4 = .ok (.iload_n 2, 1) := by decide +kernel
theorem dX4_peopleAlive_5 : decode cX4_peopleAlive 5 = .ok (.bipush 6, 2) := by decide +kernel
theorem dX4_peopleAlive_7 : decode cX4_peopleAlive 7 = .ok (.if_icmp .ge 26, 3) := by decide +kernel
theorem dX4_peopleAlive_10 : decode cX4_peopleAlive 10 = .ok (.iload_n 1, 1) := by decide +kernel
theorem dX4_peopleAlive_11 : decode cX4_peopleAlive 11 = .ok (.aload_n 0, 1) := by decide +kernel
theorem dX4_peopleAlive_12 : decode cX4_peopleAlive 12 = .ok (.getfield 18, 3) := by decide +kernel
theorem dX4_peopleAlive_15 : decode cX4_peopleAlive 15 = .ok (.iload_n 2, 1) := by decide +kernel
theorem dX4_peopleAlive_16 : decode cX4_peopleAlive 16 = .ok (.baload, 1) := by decide +kernel
theorem dX4_peopleAlive_17 : decode cX4_peopleAlive 17 = .ok (.ifCond .eq 7, 3) := by decide +kernel
theorem dX4_peopleAlive_20 : decode cX4_peopleAlive 20 = .ok (.iconst 1, 1) := by decide +kernel
theorem dX4_peopleAlive_21 : decode cX4_peopleAlive 21 = .ok (.goto 4, 3) := by decide +kernel
theorem dX4_peopleAlive_24 : decode cX4_peopleAlive 24 = .ok (.iconst 0, 1) := by decide +kernel
theorem dX4_peopleAlive_25 : decode cX4_peopleAlive 25 = .ok (.iadd, 1) := by decide +kernel
theorem dX4_peopleAlive_26 : decode cX4_peopleAlive 26 = .ok (.istore_n 1, 1) := by decide +kernel
theorem dX4_peopleAlive_27 : decode cX4_peopleAlive 27 = .ok (.iinc 2 1, 3) := by decide +kernel
theorem dX4_peopleAlive_30 : decode cX4_peopleAlive 30 = .ok (.goto (-26), 3) := by decide +kernel
theorem dX4_peopleAlive_33 : decode cX4_peopleAlive 33 = .ok (.iload_n 1, 1) := by decide +kernel
theorem dX4_peopleAlive_34 : decode cX4_peopleAlive 34 = .ok (.ireturn, 1) := by decide +kernel
theorem dX4_moneyOfAll_0 : decode cX4_moneyOfAll 0 = .ok (.iconst 0, 1) := by decide +kernel
theorem dX4_moneyOfAll_1 : decode cX4_moneyOfAll 1 = .ok (.istore_n 1, 1) := by decide +kernel
theorem dX4_moneyOfAll_2 : decode cX4_moneyOfAll 2 = .ok (.iconst 0, 1) := by decide +kernel
theorem dX4_moneyOfAll_3 : decode cX4_moneyOfAll 3 = .ok (.istore_n 2, 1) := by decide +kernel
theorem dX4_moneyOfAll_4 : decode cX4_moneyOfAll 4 = .ok (.iload_n 2, 1) := by decide +kernel
theorem dX4_moneyOfAll_5 : decode cX4_moneyOfAll 5 = .ok (.bipush 6, 2) := by decide +kernel
theorem dX4_moneyOfAll_7 : decode cX4_moneyOfAll 7 = .ok (.if_icmp .ge 18, 3) := by decide +kernel
theorem dX4_moneyOfAll_10 : decode cX4_moneyOfAll 10 = .ok (.iload_n 1, 1) := by decide +kernel
theorem dX4_moneyOfAll_11 : decode cX4_moneyOfAll 11 = .ok (.aload_n 0, 1) := by decide +kernel
theorem dX4_moneyOfAll_12 : decode cX4_moneyOfAll 12 = .ok (.getfield 9, 3) := by decide +kernel
theorem dX4_moneyOfAll_15 : decode cX4_moneyOfAll 15 = .ok (.iload_n 2, 1) := by decide +kernel
theorem dX4_moneyOfAll_16 : decode cX4_moneyOfAll 16 = .ok (.iaload, 1) := by decide +kernel
theorem dX4_moneyOfAll_17 : decode cX4_moneyOfAll 17 = .ok (.iadd, 1) := by decide +kernel
theorem dX4_moneyOfAll_18 : decode cX4_moneyOfAll 18 = .ok (.istore_n 1, 1) := by decide +kernel
theorem dX4_moneyOfAll_19 : decode cX4_moneyOfAll 19 = .ok (.iinc 2 1, 3) := by decide +kernel
theorem dX4_moneyOfAll_22 : decode cX4_moneyOfAll 22 = .ok (.goto (-18), 3) := by decide +kernel
theorem dX4_moneyOfAll_25 : decode cX4_moneyOfAll 25 = .ok (.iload_n 1, 1) := by decide +kernel
theorem dX4_moneyOfAll_26 : decode cX4_moneyOfAll 26 = .ok (.ireturn, 1) := by decide +kernel
theorem dX4_openSides_0 : decode cX4_openSides 0 = .ok (.iconst 0, 1) := by decide +kernel
theorem dX4_openSides_1 : decode cX4_openSides 1 = .ok (.istore_n 1, 1) := by decide +kernel
theorem dX4_openSides_2 : decode cX4_openSides 2 = .ok (.iconst 0, 1) := by decide +kernel
theorem dX4_openSides_3 : decode cX4_openSides 3 = .ok (.istore_n 2, 1) := by decide +kernel
theorem dX4_openSides_4 : decode cX4_openSides 4 = .ok (.iload_n 2, 1) := by decide +kernel
theorem dX4_openSides_5 : decode cX4_openSides 5 = .ok (.aload_n 0, 1) := by decide +kernel
theorem dX4_openSides_6 : decode cX4_openSides 6 = .ok (.getfield 50, 3) := by decide +kernel
theorem dX4_openSides_9 : decode cX4_openSides 9 = .ok (.getfield 57, 3) := by decide +kernel
theorem dX4_openSides_12 : decode cX4_openSides 12 = .ok (.if_icmp .ge 43, 3) := by decide +kernel
theorem dX4_openSides_15 : decode cX4_openSides 15 = .ok (.iload_n 1, 1) := by decide +kernel
theorem dX4_openSides_16 : decode cX4_openSides 16 = .ok (.aload_n 0, 1) := by decide +kernel
theorem dX4_openSides_17 : decode cX4_openSides 17 = .ok (.iload_n 2, 1) := by decide +kernel
theorem dX4_openSides_18 : decode cX4_openSides 18 = .ok (.iconst 0, 1) := by decide +kernel
theorem dX4_openSides_19 : decode cX4_openSides 19 = .ok (.invokevirtual 85, 3) := by decide +kernel
theorem dX4_openSides_22 : decode cX4_openSides 22 = .ok (.ifCond .eq 7, 3) := by decide +kernel
theorem dX4_openSides_25 : decode cX4_openSides 25 = .ok (.iconst 1, 1) := by decide +kernel
theorem dX4_openSides_26 : decode cX4_openSides 26 = .ok (.goto 4, 3) := by decide +kernel
theorem dX4_openSides_29 : decode cX4_openSides 29 = .ok (.iconst 0, 1) := by decide +kernel
theorem dX4_openSides_30 : decode cX4_openSides 30 = .ok (.iadd, 1) := by decide +kernel
theorem dX4_openSides_31 : decode cX4_openSides 31 = .ok (.istore_n 1, 1) := by decide +kernel
theorem dX4_openSides_32 : decode cX4_openSides 32 = .ok (.iload_n 1, 1) := by decide +kernel
theorem dX4_openSides_33 : decode cX4_openSides 33 = .ok (.aload_n 0, 1) := by decide +kernel
theorem dX4_openSides_34 : decode cX4_openSides 34 = .ok (.iload_n 2, 1) := by decide +kernel
theorem dX4_openSides_35 : decode cX4_openSides 35 = .ok (.iconst 1, 1) := by decide +kernel
theorem dX4_openSides_36 : decode cX4_openSides 36 = .ok (.invokevirtual 85, 3) := by decide +kernel
theorem dX4_openSides_39 : decode cX4_openSides 39 = .ok (.ifCond .eq 7, 3) := by decide +kernel
theorem dX4_openSides_42 : decode cX4_openSides 42 = .ok (.iconst 1, 1) := by decide +kernel
theorem dX4_openSides_43 : decode cX4_openSides 43 = .ok (.goto 4, 3) := by decide +kernel
theorem dX4_openSides_46 : decode cX4_openSides 46 = .ok (.iconst 0, 1) := by decide +kernel
theorem dX4_openSides_47 : decode cX4_openSides 47 = .ok (.iadd, 1) := by decide +kernel
theorem dX4_openSides_48 : decode cX4_openSides 48 = .ok (.istore_n 1, 1) := by decide +kernel
theorem dX4_openSides_49 : decode cX4_openSides 49 = .ok (.iinc 2 1, 3) := by decide +kernel
theorem dX4_openSides_52 : decode cX4_openSides 52 = .ok (.goto (-48), 3) := by decide +kernel
theorem dX4_openSides_55 : decode cX4_openSides 55 = .ok (.iload_n 1, 1) := by decide +kernel
theorem dX4_openSides_56 : decode cX4_openSides 56 = .ok (.ireturn, 1) := by decide +kernel
theorem dX4_lentSides_0 : decode cX4_lentSides 0 = .ok (.bipush 16, 2) := by decide +kernel
theorem dX4_lentSides_2 : decode cX4_lentSides 2 = .ok (.aload_n 0, 1) := by decide +kernel
theorem dX4_lentSides_3 : decode cX4_lentSides 3 = .ok (.getfield 25, 3) := by decide +kernel
theorem dX4_lentSides_6 : decode cX4_lentSides 6 = .ok (.bipush 16, 2) := by decide +kernel
theorem dX4_lentSides_8 : decode cX4_lentSides 8 = .ok (.iconst (-1), 1) := by decide +kernel
theorem dX4_lentSides_9 : decode cX4_lentSides 9 = .ok (.invokestatic 145, 3) := by decide +kernel
theorem dX4_lentSides_12 : decode cX4_lentSides 12 = .ok (.isub, 1) := by decide +kernel
theorem dX4_lentSides_13 : decode cX4_lentSides 13 = .ok (.ireturn, 1) := by decide +kernel
theorem dX5_init_0 : decode cX5_init 0 = .ok (.aload_n 0, 1) := by decide +kernel
theorem dX5_init_1 : decode cX5_init 1 = .ok (.iload_n 1, 1) := by decide +kernel
theorem dX5_init_2 : decode cX5_init 2 = .ok (.invokespecial 3, 3) := by decide +kernel
theorem dX5_init_5 : decode cX5_init 5 = .ok (.return_, 1) := by decide +kernel
theorem dX5_kind_0 : decode cX5_kind 0 = .ok (.iconst 2, 1) := by decide +kernel
theorem dX5_kind_1 : decode cX5_kind 1 = .ok (.ireturn, 1) := by decide +kernel
theorem dX5_fullPrice_0 : decode cX5_fullPrice 0 = .ok (.iconst 1, 1) := by decide +kernel
theorem dX5_fullPrice_1 : decode cX5_fullPrice 1 = .ok (.ireturn, 1) := by decide +kernel
theorem dX5_mostOpenAtPeace_0 : decode cX5_mostOpenAtPeace 0 = .ok (.iconst 1, 1) := by decide +kernel
theorem dX5_mostOpenAtPeace_1 : decode cX5_mostOpenAtPeace 1 = .ok (.ireturn, 1) := by decide +kernel
theorem dX6_init_0 : decode cX6_init 0 = .ok (.aload_n 0, 1) := by decide +kernel
theorem dX6_init_1 : decode cX6_init 1 = .ok (.invokespecial 3, 3) := by decide +kernel
theorem dX6_init_4 : decode cX6_init 4 = .ok (.aload_n 0, 1) := by decide +kernel
theorem dX6_init_5 : decode cX6_init 5 = .ok (.bipush 64, 2) := by decide +kernel
theorem dX6_init_7 : decode cX6_init 7 = .ok (.newarray .int, 2) := by decide +kernel
theorem dX6_init_9 : decode cX6_init 9 = .ok (.putfield 9, 3) := by decide +kernel
theorem dX6_init_12 : decode cX6_init 12 = .ok (.aload_n 0, 1) := by decide +kernel
theorem dX6_init_13 : decode cX6_init 13 = .ok (.bipush 36, 2) := by decide +kernel
theorem dX6_init_15 : decode cX6_init 15 = .ok (.newarray .int, 2) := by decide +kernel
theorem dX6_init_17 : decode cX6_init 17 = .ok (.putfield 15, 3) := by decide +kernel
theorem dX6_init_20 : decode cX6_init 20 = .ok (.aload_n 0, 1) := by decide +kernel
theorem dX6_init_21 : decode cX6_init 21 = .ok (.iconst 0, 1) := by decide +kernel
theorem dX6_init_22 : decode cX6_init 22 = .ok (.putfield 18, 3) := by decide +kernel
theorem dX6_init_25 : decode cX6_init 25 = .ok (.aload_n 0, 1) := by decide +kernel
theorem dX6_init_26 : decode cX6_init 26 = .ok (.iconst 0, 1) := by decide +kernel
theorem dX6_init_27 : decode cX6_init 27 = .ok (.putfield 22, 3) := by decide +kernel
theorem dX6_init_30 : decode cX6_init 30 = .ok (.return_, 1) := by decide +kernel
theorem dX6_pairUp_0 : decode cX6_pairUp 0 = .ok (.aload_n 0, 1) := by decide +kernel
theorem dX6_pairUp_1 : decode cX6_pairUp 1 = .ok (.aload_n 1, 1) := by decide +kernel
theorem dX6_pairUp_2 : decode cX6_pairUp 2 = .ok (.invokevirtual 25, 3) := by decide +kernel
theorem dX6_pairUp_5 : decode cX6_pairUp 5 = .ok (.aload_n 0, 1) := by decide +kernel
theorem dX6_pairUp_6 : decode cX6_pairUp 6 = .ok (.getfield 9, 3) := by decide +kernel
theorem dX6_pairUp_9 : decode cX6_pairUp 9 = .ok (.iconst 0, 1) := by decide +kernel
theorem dX6_pairUp_10 : decode cX6_pairUp 10 = .ok (.iconst 0, 1) := by decide +kernel
theorem dX6_pairUp_11 : decode cX6_pairUp 11 = .ok (.iastore, 1) := by decide +kernel
theorem dX6_pairUp_12 : decode cX6_pairUp 12 = .ok (.iconst 1, 1) := by decide +kernel
theorem dX6_pairUp_13 : decode cX6_pairUp 13 = .ok (.istore_n 2, 1) := by decide +kernel
theorem dX6_pairUp_14 : decode cX6_pairUp 14 = .ok (.iload_n 2, 1) := by decide +kernel
theorem dX6_pairUp_15 : decode cX6_pairUp 15 = .ok (.bipush 64, 2) := by decide +kernel
theorem dX6_pairUp_17 : decode cX6_pairUp 17 = .ok (.if_icmp .ge 20, 3) := by decide +kernel
theorem dX6_pairUp_20 : decode cX6_pairUp 20 = .ok (.aload_n 0, 1) := by decide +kernel
theorem dX6_pairUp_21 : decode cX6_pairUp 21 = .ok (.getfield 9, 3) := by decide +kernel
theorem dX6_pairUp_24 : decode cX6_pairUp 24 = .ok (.iload_n 2, 1) := by decide +kernel
theorem dX6_pairUp_25 : decode cX6_pairUp 25 = .ok (.aload_n 0, 1) := by decide +kernel
theorem dX6_pairUp_26 : decode cX6_pairUp 26 = .ok (.iload_n 2, 1) := by decide +kernel
theorem dX6_pairUp_27 : decode cX6_pairUp 27 = .ok (.invokevirtual 29, 3) := by decide +kernel
theorem dX6_pairUp_30 : decode cX6_pairUp 30 = .ok (.iastore, 1) := by decide +kernel
theorem dX6_pairUp_31 : decode cX6_pairUp 31 = .ok (.iinc 2 1, 3) := by decide +kernel
theorem dX6_pairUp_34 : decode cX6_pairUp 34 = .ok (.goto (-20), 3) := by decide +kernel
theorem dX6_pairUp_37 : decode cX6_pairUp 37 = .ok (.aload_n 0, 1) := by decide +kernel
theorem dX6_pairUp_38 : decode cX6_pairUp 38 = .ok (.getfield 9, 3) := by decide +kernel
theorem dX6_pairUp_41 : decode cX6_pairUp 41 = .ok (.bipush 63, 2) := by decide +kernel
theorem dX6_pairUp_43 : decode cX6_pairUp 43 = .ok (.iaload, 1) := by decide +kernel
theorem dX6_pairUp_44 : decode cX6_pairUp 44 = .ok (.istore_n 2, 1) := by decide +kernel
theorem dX6_pairUp_45 : decode cX6_pairUp 45 = .ok (.aload_n 0, 1) := by decide +kernel
theorem dX6_pairUp_46 : decode cX6_pairUp 46 = .ok (.iload_n 2, 1) := by decide +kernel
theorem dX6_pairUp_47 : decode cX6_pairUp 47 = .ok (.iconst 4, 1) := by decide +kernel
theorem dX6_pairUp_48 : decode cX6_pairUp 48 = .ok (.iadd, 1) := by decide +kernel
theorem dX6_pairUp_49 : decode cX6_pairUp 49 = .ok (.iconst 1, 1) := by decide +kernel
theorem dX6_pairUp_50 : decode cX6_pairUp 50 = .ok (.isub, 1) := by decide +kernel
theorem dX6_pairUp_51 : decode cX6_pairUp 51 = .ok (.iconst 4, 1) := by decide +kernel
theorem dX6_pairUp_52 : decode cX6_pairUp 52 = .ok (.idiv, 1) := by decide +kernel
theorem dX6_pairUp_53 : decode cX6_pairUp 53 = .ok (.putfield 18, 3) := by decide +kernel
theorem dX6_pairUp_56 : decode cX6_pairUp 56 = .ok (.aload_n 0, 1) := by decide +kernel
theorem dX6_pairUp_57 : decode cX6_pairUp 57 = .ok (.iconst 4, 1) := by decide +kernel
theorem dX6_pairUp_58 : decode cX6_pairUp 58 = .ok (.aload_n 0, 1) := by decide +kernel
theorem dX6_pairUp_59 : decode cX6_pairUp 59 = .ok (.getfield 18, 3) := by decide +kernel
theorem dX6_pairUp_62 : decode cX6_pairUp 62 = .ok (.imul, 1) := by decide +kernel
theorem dX6_pairUp_63 : decode cX6_pairUp 63 = .ok (.iload_n 2, 1) := by decide +kernel
theorem dX6_pairUp_64 : decode cX6_pairUp 64 = .ok (.isub, 1) := by decide +kernel
theorem dX6_pairUp_65 : decode cX6_pairUp 65 = .ok (.putfield 22, 3) := by decide +kernel
theorem dX6_pairUp_68 : decode cX6_pairUp 68 = .ok (.return_, 1) := by decide +kernel
theorem dX6_reckonGains_0 : decode cX6_reckonGains 0 = .ok (.iconst 0, 1) := by decide +kernel
theorem dX6_reckonGains_1 : decode cX6_reckonGains 1 = .ok (.istore_n 2, 1) := by decide +kernel
theorem dX6_reckonGains_2 : decode cX6_reckonGains 2 = .ok (.iload_n 2, 1) := by decide +kernel
theorem dX6_reckonGains_3 : decode cX6_reckonGains 3 = .ok (.bipush 6, 2) := by decide +kernel
theorem dX6_reckonGains_5 : decode cX6_reckonGains 5 = .ok (.if_icmp .ge 83, 3) := by decide +kernel
theorem dX6_reckonGains_8 : decode cX6_reckonGains 8 = .ok (.iconst 0, 1) := by decide +kernel
theorem dX6_reckonGains_9 : decode cX6_reckonGains 9 = .ok (.istore_n 3, 1) := by decide +kernel
theorem dX6_reckonGains_10 : decode cX6_reckonGains 10 = .ok (.iload_n 3, 1) := by decide +kernel
theorem dX6_reckonGains_11 : decode cX6_reckonGains 11 = .ok (.bipush 6, 2) := by decide +kernel
theorem dX6_reckonGains_13 : decode cX6_reckonGains 13 = .ok (.if_icmp .ge 69, 3) := by decide +kernel
theorem dX6_reckonGains_16 : decode cX6_reckonGains 16 = .ok (.iload_n 2, 1) := by decide +kernel
theorem dX6_reckonGains_17 : decode cX6_reckonGains 17 = .ok (.iload_n 3, 1) := by decide +kernel
theorem dX6_reckonGains_18 : decode cX6_reckonGains 18 = .ok (.if_icmp .eq 25, 3) := by decide +kernel
theorem dX6_reckonGains_21 : decode cX6_reckonGains 21 = .ok (.aload_n 1, 1) := by decide +kernel
theorem dX6_reckonGains_22 : decode cX6_reckonGains 22 = .ok (.getfield 33, 3) := by decide +kernel
theorem dX6_reckonGains_25 : decode cX6_reckonGains 25 = .ok (.iload_n 2, 1) := by decide +kernel
theorem dX6_reckonGains_26 : decode cX6_reckonGains 26 = .ok (.baload, 1) := by decide +kernel
theorem dX6_reckonGains_27 : decode cX6_reckonGains 27 = .ok (.ifCond .eq 16, 3) := by decide +kernel
theorem dX6_reckonGains_30 : decode cX6_reckonGains 30 = .ok (.aload_n 1, 1) := by decide +kernel
theorem dX6_reckonGains_31 : decode cX6_reckonGains 31 = .ok (.getfield 33, 3) := by decide +kernel
theorem dX6_reckonGains_34 : decode cX6_reckonGains 34 = .ok (.iload_n 3, 1) := by decide +kernel
theorem dX6_reckonGains_35 : decode cX6_reckonGains 35 = .ok (.baload, 1) := by decide +kernel
theorem dX6_reckonGains_36 : decode cX6_reckonGains 36 = .ok (.ifCond .eq 7, 3) := by decide +kernel
theorem dX6_reckonGains_39 : decode cX6_reckonGains 39 = .ok (.iconst 1, 1) := by decide +kernel
theorem dX6_reckonGains_40 : decode cX6_reckonGains 40 = .ok (.goto 4, 3) := by decide +kernel
theorem dX6_reckonGains_43 : decode cX6_reckonGains 43 = .ok (.iconst 0, 1) := by decide +kernel
theorem dX6_reckonGains_44 : decode cX6_reckonGains 44 = .ok (.istore 4, 2) := by decide +kernel
theorem dX6_reckonGains_46 : decode cX6_reckonGains 46 = .ok (.aload_n 0, 1) := by decide +kernel
theorem dX6_reckonGains_47 : decode cX6_reckonGains 47 = .ok (.getfield 15, 3) := by decide +kernel
theorem dX6_reckonGains_50 : decode cX6_reckonGains 50 = .ok (.bipush 6, 2) := by decide +kernel
theorem dX6_reckonGains_52 : decode cX6_reckonGains 52 = .ok (.iload_n 2, 1) := by decide +kernel
theorem dX6_reckonGains_53 : decode cX6_reckonGains 53 = .ok (.imul, 1) := by decide +kernel
theorem dX6_reckonGains_54 : decode cX6_reckonGains 54 = .ok (.iload_n 3, 1) := by decide +kernel
theorem dX6_reckonGains_55 : decode cX6_reckonGains 55 = .ok (.iadd, 1) := by decide +kernel
theorem dX6_reckonGains_56 : decode cX6_reckonGains 56 = .ok (.iload 4, 2) := by decide +kernel
theorem dX6_reckonGains_58 : decode cX6_reckonGains 58 = .ok (.ifCond .eq 16, 3) := by decide +kernel
theorem dX6_reckonGains_61 : decode cX6_reckonGains 61 = .ok (.iconst 4, 1) := by decide +kernel
theorem dX6_reckonGains_62 : decode cX6_reckonGains 62 = .ok (.aload_n 1, 1) := by decide +kernel
theorem dX6_reckonGains_63 : decode cX6_reckonGains 63 = .ok (.iload_n 2, 1) := by decide +kernel
theorem dX6_reckonGains_64 : decode cX6_reckonGains 64 = .ok (.iload_n 3, 1) := by decide +kernel
theorem dX6_reckonGains_65 : decode cX6_reckonGains 65 = .ok (.invokevirtual 39, 3) := by decide +kernel
theorem dX6_reckonGains_68 : decode cX6_reckonGains 68 = .ok (.imul, 1) := by decide +kernel
theorem dX6_reckonGains_69 : decode cX6_reckonGains 69 = .ok (.iconst 1, 1) := by decide +kernel
theorem dX6_reckonGains_70 : decode cX6_reckonGains 70 = .ok (.isub, 1) := by decide +kernel
theorem dX6_reckonGains_71 : decode cX6_reckonGains 71 = .ok (.goto 4, 3) := by decide +kernel
theorem dX6_reckonGains_74 : decode cX6_reckonGains 74 = .ok (.iconst (-1), 1) := by decide +kernel
theorem dX6_reckonGains_75 : decode cX6_reckonGains 75 = .ok (.iastore, 1) := by decide +kernel
theorem dX6_reckonGains_76 : decode cX6_reckonGains 76 = .ok (.iinc 3 1, 3) := by decide +kernel
theorem dX6_reckonGains_79 : decode cX6_reckonGains 79 = .ok (.goto (-69), 3) := by decide +kernel
theorem dX6_reckonGains_82 : decode cX6_reckonGains 82 = .ok (.iinc 2 1, 3) := by decide +kernel
theorem dX6_reckonGains_85 : decode cX6_reckonGains 85 = .ok (.goto (-83), 3) := by decide +kernel
theorem dX6_reckonGains_88 : decode cX6_reckonGains 88 = .ok (.return_, 1) := by decide +kernel
theorem dX6_bestOf_0 : decode cX6_bestOf 0 = .ok (.iload_n 1, 1) := by decide +kernel
theorem dX6_bestOf_1 : decode cX6_bestOf 1 = .ok (.invokestatic 43, 3) := by decide +kernel
theorem dX6_bestOf_4 : decode cX6_bestOf 4 = .ok (.istore_n 2, 1) := by decide +kernel
theorem dX6_bestOf_5 : decode cX6_bestOf 5 = .ok (.iload_n 1, 1) := by decide +kernel
theorem dX6_bestOf_6 : decode cX6_bestOf 6 = .ok (.iconst 1, 1) := by decide +kernel
theorem dX6_bestOf_7 : decode cX6_bestOf 7 = .ok (.iload_n 2, 1) := by decide +kernel
theorem dX6_bestOf_8 : decode cX6_bestOf 8 = .ok (.ishl, 1) := by decide +kernel
theorem dX6_bestOf_9 : decode cX6_bestOf 9 = .ok (.iconst (-1), 1) := by decide +kernel
theorem dX6_bestOf_10 : decode cX6_bestOf 10 = .ok (.ixor, 1) := by decide +kernel
theorem dX6_bestOf_11 : decode cX6_bestOf 11 = .ok (.iand, 1) := by decide +kernel
theorem dX6_bestOf_12 : decode cX6_bestOf 12 = .ok (.istore_n 3, 1) := by decide +kernel
theorem dX6_bestOf_13 : decode cX6_bestOf 13 = .ok (.aload_n 0, 1) := by decide +kernel
theorem dX6_bestOf_14 : decode cX6_bestOf 14 = .ok (.getfield 9, 3) := by decide +kernel
theorem dX6_bestOf_17 : decode cX6_bestOf 17 = .ok (.iload_n 3, 1) := by decide +kernel
theorem dX6_bestOf_18 : decode cX6_bestOf 18 = .ok (.iaload, 1) := by decide +kernel
theorem dX6_bestOf_19 : decode cX6_bestOf 19 = .ok (.istore 4, 2) := by decide +kernel
theorem dX6_bestOf_21 : decode cX6_bestOf 21 = .ok (.iload_n 2, 1) := by decide +kernel
theorem dX6_bestOf_22 : decode cX6_bestOf 22 = .ok (.iconst 1, 1) := by decide +kernel
theorem dX6_bestOf_23 : decode cX6_bestOf 23 = .ok (.iadd, 1) := by decide +kernel
theorem dX6_bestOf_24 : decode cX6_bestOf 24 = .ok (.istore 5, 2) := by decide +kernel
theorem dX6_bestOf_26 : decode cX6_bestOf 26 = .ok (.iload 5, 2) := by decide +kernel
theorem dX6_bestOf_28 : decode cX6_bestOf 28 = .ok (.bipush 6, 2) := by decide +kernel
theorem dX6_bestOf_30 : decode cX6_bestOf 30 = .ok (.if_icmp .ge 56, 3) := by decide +kernel
theorem dX6_bestOf_33 : decode cX6_bestOf 33 = .ok (.iload_n 3, 1) := by decide +kernel
theorem dX6_bestOf_34 : decode cX6_bestOf 34 = .ok (.iload 5, 2) := by decide +kernel
theorem dX6_bestOf_36 : decode cX6_bestOf 36 = .ok (.ishr, 1) := by decide +kernel
theorem dX6_bestOf_37 : decode cX6_bestOf 37 = .ok (.iconst 1, 1) := by decide +kernel
theorem dX6_bestOf_38 : decode cX6_bestOf 38 = .ok (.iand, 1) := by decide +kernel
theorem dX6_bestOf_39 : decode cX6_bestOf 39 = .ok (.iconst 1, 1) := by decide +kernel
theorem dX6_bestOf_40 : decode cX6_bestOf 40 = .ok (.if_icmp .ne 40, 3) := by decide +kernel
theorem dX6_bestOf_43 : decode cX6_bestOf 43 = .ok (.aload_n 0, 1) := by decide +kernel
theorem dX6_bestOf_44 : decode cX6_bestOf 44 = .ok (.getfield 9, 3) := by decide +kernel
theorem dX6_bestOf_47 : decode cX6_bestOf 47 = .ok (.iload_n 3, 1) := by decide +kernel
theorem dX6_bestOf_48 : decode cX6_bestOf 48 = .ok (.iconst 1, 1) := by decide +kernel
theorem dX6_bestOf_49 : decode cX6_bestOf 49 = .ok (.iload 5, 2) := by decide +kernel
theorem dX6_bestOf_51 : decode cX6_bestOf 51 = .ok (.ishl, 1) := by decide +kernel
theorem dX6_bestOf_52 : decode cX6_bestOf 52 = .ok (.iconst (-1), 1) := by decide +kernel
theorem dX6_bestOf_53 : decode cX6_bestOf 53 = .ok (.ixor, 1) := by decide +kernel
theorem dX6_bestOf_54 : decode cX6_bestOf 54 = .ok (.iand, 1) := by decide +kernel
theorem dX6_bestOf_55 : decode cX6_bestOf 55 = .ok (.iaload, 1) := by decide +kernel
theorem dX6_bestOf_56 : decode cX6_bestOf 56 = .ok (.aload_n 0, 1) := by decide +kernel
theorem dX6_bestOf_57 : decode cX6_bestOf 57 = .ok (.getfield 15, 3) := by decide +kernel
theorem dX6_bestOf_60 : decode cX6_bestOf 60 = .ok (.bipush 6, 2) := by decide +kernel
theorem dX6_bestOf_62 : decode cX6_bestOf 62 = .ok (.iload_n 2, 1) := by decide +kernel
theorem dX6_bestOf_63 : decode cX6_bestOf 63 = .ok (.imul, 1) := by decide +kernel
theorem dX6_bestOf_64 : decode cX6_bestOf 64 = .ok (.iload 5, 2) := by decide +kernel
theorem dX6_bestOf_66 : decode cX6_bestOf 66 = .ok (.iadd, 1) := by decide +kernel
theorem dX6_bestOf_67 : decode cX6_bestOf 67 = .ok (.iaload, 1) := by decide +kernel
theorem dX6_bestOf_68 : decode cX6_bestOf 68 = .ok (.iadd, 1) := by decide +kernel
theorem dX6_bestOf_69 : decode cX6_bestOf 69 = .ok (.istore 6, 2) := by decide +kernel
theorem dX6_bestOf_71 : decode cX6_bestOf 71 = .ok (.iload 4, 2) := by decide +kernel
theorem dX6_bestOf_73 : decode cX6_bestOf 73 = .ok (.iload 6, 2) := by decide +kernel
theorem dX6_bestOf_75 : decode cX6_bestOf 75 = .ok (.invokestatic 46, 3) := by decide +kernel
theorem dX6_bestOf_78 : decode cX6_bestOf 78 = .ok (.istore 4, 2) := by decide +kernel
theorem dX6_bestOf_80 : decode cX6_bestOf 80 = .ok (.iinc 5 1, 3) := by decide +kernel
theorem dX6_bestOf_83 : decode cX6_bestOf 83 = .ok (.goto (-57), 3) := by decide +kernel
theorem dX6_bestOf_86 : decode cX6_bestOf 86 = .ok (.iload 4, 2) := by decide +kernel
theorem dX6_bestOf_88 : decode cX6_bestOf 88 = .ok (.ireturn, 1) := by decide +kernel
theorem dX6_leastOf_0 : decode cX6_leastOf 0 = .ok (.iconst 0, 1) := by decide +kernel
theorem dX6_leastOf_1 : decode cX6_leastOf 1 = .ok (.istore_n 1, 1) := by decide +kernel
theorem dX6_leastOf_2 : decode cX6_leastOf 2 = .ok (.iload_n 1, 1) := by decide +kernel
theorem dX6_leastOf_3 : decode cX6_leastOf 3 = .ok (.bipush 6, 2) := by decide +kernel
theorem dX6_leastOf_5 : decode cX6_leastOf 5 = .ok (.if_icmp .ge 20, 3) := by decide +kernel
theorem dX6_leastOf_8 : decode cX6_leastOf 8 = .ok (.iload_n 0, 1) := by decide +kernel
theorem dX6_leastOf_9 : decode cX6_leastOf 9 = .ok (.iload_n 1, 1) := by decide +kernel
theorem dX6_leastOf_10 : decode cX6_leastOf 10 = .ok (.ishr, 1) := by decide +kernel
theorem dX6_leastOf_11 : decode cX6_leastOf 11 = .ok (.iconst 1, 1) := by decide +kernel
theorem dX6_leastOf_12 : decode cX6_leastOf 12 = .ok (.iand, 1) := by decide +kernel
theorem dX6_leastOf_13 : decode cX6_leastOf 13 = .ok (.iconst 1, 1) := by decide +kernel
theorem dX6_leastOf_14 : decode cX6_leastOf 14 = .ok (.if_icmp .ne 5, 3) := by decide +kernel
theorem dX6_leastOf_17 : decode cX6_leastOf 17 = .ok (.iload_n 1, 1) := by decide +kernel
theorem dX6_leastOf_18 : decode cX6_leastOf 18 = .ok (.ireturn, 1) := by decide +kernel
theorem dX6_leastOf_19 : decode cX6_leastOf 19 = .ok (.iinc 1 1, 3) := by decide +kernel
theorem dX6_leastOf_22 : decode cX6_leastOf 22 = .ok (.goto (-20), 3) := by decide +kernel
theorem dX6_leastOf_25 : decode cX6_leastOf 25 = .ok (.iconst 0, 1) := by decide +kernel
theorem dX6_leastOf_26 : decode cX6_leastOf 26 = .ok (.ireturn, 1) := by decide +kernel
theorem dX7_init_0 : decode cX7_init 0 = .ok (.aload_n 0, 1) := by decide +kernel
theorem dX7_init_1 : decode cX7_init 1 = .ok (.invokespecial 3, 3) := by decide +kernel
theorem dX7_init_4 : decode cX7_init 4 = .ok (.aload_n 0, 1) := by decide +kernel
theorem dX7_init_5 : decode cX7_init 5 = .ok (.bipush 9, 2) := by decide +kernel
theorem dX7_init_7 : decode cX7_init 7 = .ok (.newarray .long, 2) := by decide +kernel
theorem dX7_init_9 : decode cX7_init 9 = .ok (.putfield 9, 3) := by decide +kernel
theorem dX7_init_12 : decode cX7_init 12 = .ok (.aload_n 0, 1) := by decide +kernel
theorem dX7_init_13 : decode cX7_init 13 = .ok (.lconst 1, 1) := by decide +kernel
theorem dX7_init_14 : decode cX7_init 14 = .ok (.putfield 15, 3) := by decide +kernel
theorem dX7_init_17 : decode cX7_init 17 = .ok (.return_, 1) := by decide +kernel
theorem dX7_reckon_0 : decode cX7_reckon 0 = .ok (.aload_n 0, 1) := by decide +kernel
theorem dX7_reckon_1 : decode cX7_reckon 1 = .ok (.getfield 9, 3) := by decide +kernel
theorem dX7_reckon_4 : decode cX7_reckon 4 = .ok (.lconst 0, 1) := by decide +kernel
theorem dX7_reckon_5 : decode cX7_reckon 5 = .ok (.invokestatic 19, 3) := by decide +kernel
theorem dX7_reckon_8 : decode cX7_reckon 8 = .ok (.aload_n 0, 1) := by decide +kernel
theorem dX7_reckon_9 : decode cX7_reckon 9 = .ok (.getfield 9, 3) := by decide +kernel
theorem dX7_reckon_12 : decode cX7_reckon 12 = .ok (.iconst 0, 1) := by decide +kernel
theorem dX7_reckon_13 : decode cX7_reckon 13 = .ok (.lconst 1, 1) := by decide +kernel
theorem dX7_reckon_14 : decode cX7_reckon 14 = .ok (.lastore, 1) := by decide +kernel
theorem dX7_reckon_15 : decode cX7_reckon 15 = .ok (.aload_n 0, 1) := by decide +kernel
theorem dX7_reckon_16 : decode cX7_reckon 16 = .ok (.lconst 1, 1) := by decide +kernel
theorem dX7_reckon_17 : decode cX7_reckon 17 = .ok (.putfield 15, 3) := by decide +kernel
theorem dX7_reckon_20 : decode cX7_reckon 20 = .ok (.iconst 0, 1) := by decide +kernel
theorem dX7_reckon_21 : decode cX7_reckon 21 = .ok (.istore_n 3, 1) := by decide +kernel
theorem dX7_reckon_22 : decode cX7_reckon 22 = .ok (.iload_n 3, 1) := by decide +kernel
theorem dX7_reckon_23 : decode cX7_reckon 23 = .ok (.aload_n 1, 1) := by decide +kernel
theorem dX7_reckon_24 : decode cX7_reckon 24 = .ok (.getfield 25, 3) := by decide +kernel
theorem dX7_reckon_27 : decode cX7_reckon 27 = .ok (.getfield 31, 3) := by decide +kernel
theorem dX7_reckon_30 : decode cX7_reckon 30 = .ok (.if_icmp .ge 88, 3) := by decide +kernel
theorem dX7_reckon_33 : decode cX7_reckon 33 = .ok (.aload_n 1, 1) := by decide +kernel
theorem dX7_reckon_34 : decode cX7_reckon 34 = .ok (.getfield 37, 3) := by decide +kernel
theorem dX7_reckon_37 : decode cX7_reckon 37 = .ok (.iload_n 3, 1) := by decide +kernel
theorem dX7_reckon_38 : decode cX7_reckon 38 = .ok (.baload, 1) := by decide +kernel
theorem dX7_reckon_39 : decode cX7_reckon 39 = .ok (.ifCond .ne 73, 3) := by decide +kernel
theorem dX7_reckon_42 : decode cX7_reckon 42 = .ok (.aload_n 1, 1) := by decide +kernel
theorem dX7_reckon_43 : decode cX7_reckon 43 = .ok (.getfield 25, 3) := by decide +kernel
theorem dX7_reckon_46 : decode cX7_reckon 46 = .ok (.getfield 41, 3) := by decide +kernel
theorem dX7_reckon_49 : decode cX7_reckon 49 = .ok (.iload_n 3, 1) := by decide +kernel
theorem dX7_reckon_50 : decode cX7_reckon 50 = .ok (.aaload, 1) := by decide +kernel
theorem dX7_reckon_51 : decode cX7_reckon 51 = .ok (.getfield 45, 3) := by decide +kernel
theorem dX7_reckon_54 : decode cX7_reckon 54 = .ok (.i2l, 1) := by decide +kernel
theorem dX7_reckon_55 : decode cX7_reckon 55 = .ok (.lstore 4, 2) := by decide +kernel
theorem dX7_reckon_57 : decode cX7_reckon 57 = .ok (.iload_n 2, 1) := by decide +kernel
theorem dX7_reckon_58 : decode cX7_reckon 58 = .ok (.iconst 2, 1) := by decide +kernel
theorem dX7_reckon_59 : decode cX7_reckon 59 = .ok (.if_icmp .ne 11, 3) := by decide +kernel
theorem dX7_reckon_62 : decode cX7_reckon 62 = .ok (.lload 4, 2) := by decide +kernel
theorem dX7_reckon_64 : decode cX7_reckon 64 = .ok (.lload 4, 2) := by decide +kernel
theorem dX7_reckon_66 : decode cX7_reckon 66 = .ok (.lmul, 1) := by decide +kernel
theorem dX7_reckon_67 : decode cX7_reckon 67 = .ok (.goto 5, 3) := by decide +kernel
theorem dX7_reckon_70 : decode cX7_reckon 70 = .ok (.lload 4, 2) := by decide +kernel
theorem dX7_reckon_72 : decode cX7_reckon 72 = .ok (.lstore 6, 2) := by decide +kernel
theorem dX7_reckon_74 : decode cX7_reckon 74 = .ok (.iload_n 2, 1) := by decide +kernel
theorem dX7_reckon_75 : decode cX7_reckon 75 = .ok (.iconst 2, 1) := by decide +kernel
theorem dX7_reckon_76 : decode cX7_reckon 76 = .ok (.if_icmp .ne 9, 3) := by decide +kernel
theorem dX7_reckon_79 : decode cX7_reckon 79 = .ok (.ldc2_w 50, 3) := by decide +kernel
theorem dX7_reckon_82 : decode cX7_reckon 82 = .ok (.goto 6, 3) := by decide +kernel
theorem dX7_reckon_85 : decode cX7_reckon 85 = .ok (.ldc2_w 52, 3) := by decide +kernel
theorem dX7_reckon_88 : decode cX7_reckon 88 = .ok (.lstore 8, 2) := by decide +kernel
theorem dX7_reckon_90 : decode cX7_reckon 90 = .ok (.aload_n 0, 1) := by decide +kernel
theorem dX7_reckon_91 : decode cX7_reckon 91 = .ok (.lload 6, 2) := by decide +kernel
theorem dX7_reckon_93 : decode cX7_reckon 93 = .ok (.lload 8, 2) := by decide +kernel
theorem dX7_reckon_95 : decode cX7_reckon 95 = .ok (.lload 6, 2) := by decide +kernel
theorem dX7_reckon_97 : decode cX7_reckon 97 = .ok (.lsub, 1) := by decide +kernel
theorem dX7_reckon_98 : decode cX7_reckon 98 = .ok (.invokevirtual 54, 3) := by decide +kernel
theorem dX7_reckon_101 : decode cX7_reckon 101 = .ok (.aload_n 0, 1) := by decide +kernel
theorem dX7_reckon_102 : decode cX7_reckon 102 = .ok (.dup, 1) := by decide +kernel
theorem dX7_reckon_103 : decode cX7_reckon 103 = .ok (.getfield 15, 3) := by decide +kernel
theorem dX7_reckon_106 : decode cX7_reckon 106 = .ok (.lload 8, 2) := by decide +kernel
theorem dX7_reckon_108 : decode cX7_reckon 108 = .ok (.lmul, 1) := by decide +kernel
theorem dX7_reckon_109 : decode cX7_reckon 109 = .ok (.putfield 15, 3) := by decide +kernel
theorem dX7_reckon_112 : decode cX7_reckon 112 = .ok (.iinc 3 1, 3) := by decide +kernel
theorem dX7_reckon_115 : decode cX7_reckon 115 = .ok (.goto (-93), 3) := by decide +kernel
theorem dX7_reckon_118 : decode cX7_reckon 118 = .ok (.return_, 1) := by decide +kernel
theorem dX7_addFeud_0 : decode cX7_addFeud 0 = .ok (.bipush 8, 2) := by decide +kernel
theorem dX7_addFeud_2 : decode cX7_addFeud 2 = .ok (.istore 5, 2) := by decide +kernel
theorem dX7_addFeud_4 : decode cX7_addFeud 4 = .ok (.iload 5, 2) := by decide +kernel
theorem dX7_addFeud_6 : decode cX7_addFeud 6 = .ok (.ifCond .le 37, 3) := by decide +kernel
theorem dX7_addFeud_9 : decode cX7_addFeud 9 = .ok (.aload_n 0, 1) := by decide +kernel
theorem dX7_addFeud_10 : decode cX7_addFeud 10 = .ok (.getfield 9, 3) := by decide +kernel
theorem dX7_addFeud_13 : decode cX7_addFeud 13 = .ok (.iload 5, 2) := by decide +kernel
theorem dX7_addFeud_15 : decode cX7_addFeud 15 = .ok (.aload_n 0, 1) := by decide +kernel
theorem dX7_addFeud_16 : decode cX7_addFeud 16 = .ok (.getfield 9, 3) := by decide +kernel
theorem dX7_addFeud_19 : decode cX7_addFeud 19 = .ok (.iload 5, 2) := by decide +kernel
theorem dX7_addFeud_21 : decode cX7_addFeud 21 = .ok (.laload, 1) := by decide +kernel
theorem dX7_addFeud_22 : decode cX7_addFeud 22 = .ok (.lload_n 3, 1) := by decide +kernel
theorem dX7_addFeud_23 : decode cX7_addFeud 23 = .ok (.lmul, 1) := by decide +kernel
theorem dX7_addFeud_24 : decode cX7_addFeud 24 = .ok (.aload_n 0, 1) := by decide +kernel
theorem dX7_addFeud_25 : decode cX7_addFeud 25 = .ok (.getfield 9, 3) := by decide +kernel
theorem dX7_addFeud_28 : decode cX7_addFeud 28 = .ok (.iload 5, 2) := by decide +kernel
theorem dX7_addFeud_30 : decode cX7_addFeud 30 = .ok (.iconst 1, 1) := by decide +kernel
theorem dX7_addFeud_31 : decode cX7_addFeud 31 = .ok (.isub, 1) := by decide +kernel
theorem dX7_addFeud_32 : decode cX7_addFeud 32 = .ok (.laload, 1) := by decide +kernel
theorem dX7_addFeud_33 : decode cX7_addFeud 33 = .ok (.lload_n 1, 1) := by decide +kernel
theorem dX7_addFeud_34 : decode cX7_addFeud 34 = .ok (.lmul, 1) := by decide +kernel
theorem dX7_addFeud_35 : decode cX7_addFeud 35 = .ok (.ladd, 1) := by decide +kernel
theorem dX7_addFeud_36 : decode cX7_addFeud 36 = .ok (.lastore, 1) := by decide +kernel
theorem dX7_addFeud_37 : decode cX7_addFeud 37 = .ok (.iinc 5 (-1), 3) := by decide +kernel
theorem dX7_addFeud_40 : decode cX7_addFeud 40 = .ok (.goto (-36), 3) := by decide +kernel
theorem dX7_addFeud_43 : decode cX7_addFeud 43 = .ok (.aload_n 0, 1) := by decide +kernel
theorem dX7_addFeud_44 : decode cX7_addFeud 44 = .ok (.getfield 9, 3) := by decide +kernel
theorem dX7_addFeud_47 : decode cX7_addFeud 47 = .ok (.iconst 0, 1) := by decide +kernel
theorem dX7_addFeud_48 : decode cX7_addFeud 48 = .ok (.dup2, 1) := by decide +kernel
theorem dX7_addFeud_49 : decode cX7_addFeud 49 = .ok (.laload, 1) := by decide +kernel
theorem dX7_addFeud_50 : decode cX7_addFeud 50 = .ok (.lload_n 3, 1) := by decide +kernel
theorem dX7_addFeud_51 : decode cX7_addFeud 51 = .ok (.lmul, 1) := by decide +kernel
theorem dX7_addFeud_52 : decode cX7_addFeud 52 = .ok (.lastore, 1) := by decide +kernel
theorem dX7_addFeud_53 : decode cX7_addFeud 53 = .ok (.return_, 1) := by decide +kernel
theorem dX7_above_0 : decode cX7_above 0 = .ok (.aload_n 0, 1) := by decide +kernel
theorem dX7_above_1 : decode cX7_above 1 = .ok (.aload_n 0, 1) := by decide +kernel
theorem dX7_above_2 : decode cX7_above 2 = .ok (.iload_n 1, 1) := by decide +kernel
theorem dX7_above_3 : decode cX7_above 3 = .ok (.invokevirtual 58, 3) := by decide +kernel
theorem dX7_above_6 : decode cX7_above 6 = .ok (.aload_n 0, 1) := by decide +kernel
theorem dX7_above_7 : decode cX7_above 7 = .ok (.iload_n 1, 1) := by decide +kernel
theorem dX7_above_8 : decode cX7_above 8 = .ok (.invokevirtual 58, 3) := by decide +kernel
theorem dX7_above_11 : decode cX7_above 11 = .ok (.invokevirtual 62, 3) := by decide +kernel
theorem dX7_above_14 : decode cX7_above 14 = .ok (.lreturn, 1) := by decide +kernel
theorem dX7_below_0 : decode cX7_below 0 = .ok (.aload_n 0, 1) := by decide +kernel
theorem dX7_below_1 : decode cX7_below 1 = .ok (.aload_n 0, 1) := by decide +kernel
theorem dX7_below_2 : decode cX7_below 2 = .ok (.getfield 15, 3) := by decide +kernel
theorem dX7_below_5 : decode cX7_below 5 = .ok (.aload_n 0, 1) := by decide +kernel
theorem dX7_below_6 : decode cX7_below 6 = .ok (.iload_n 1, 1) := by decide +kernel
theorem dX7_below_7 : decode cX7_below 7 = .ok (.invokevirtual 58, 3) := by decide +kernel
theorem dX7_below_10 : decode cX7_below 10 = .ok (.invokevirtual 62, 3) := by decide +kernel
theorem dX7_below_13 : decode cX7_below 13 = .ok (.lreturn, 1) := by decide +kernel
theorem dX7_waysOf_0 : decode cX7_waysOf 0 = .ok (.iload_n 1, 1) := by decide +kernel
theorem dX7_waysOf_1 : decode cX7_waysOf 1 = .ok (.ifCond .lt 21, 3) := by decide +kernel
theorem dX7_waysOf_4 : decode cX7_waysOf 4 = .ok (.iload_n 1, 1) := by decide +kernel
theorem dX7_waysOf_5 : decode cX7_waysOf 5 = .ok (.aload_n 0, 1) := by decide +kernel
theorem dX7_waysOf_6 : decode cX7_waysOf 6 = .ok (.getfield 9, 3) := by decide +kernel
theorem dX7_waysOf_9 : decode cX7_waysOf 9 = .ok (.arraylength, 1) := by decide +kernel
theorem dX7_waysOf_10 : decode cX7_waysOf 10 = .ok (.if_icmp .ge 12, 3) := by decide +kernel
theorem dX7_waysOf_13 : decode cX7_waysOf 13 = .ok (.aload_n 0, 1) := by decide +kernel
theorem dX7_waysOf_14 : decode cX7_waysOf 14 = .ok (.getfield 9, 3) := by decide +kernel
theorem dX7_waysOf_17 : decode cX7_waysOf 17 = .ok (.iload_n 1, 1) := by decide +kernel
theorem dX7_waysOf_18 : decode cX7_waysOf 18 = .ok (.laload, 1) := by decide +kernel
theorem dX7_waysOf_19 : decode cX7_waysOf 19 = .ok (.goto 4, 3) := by decide +kernel
theorem dX7_waysOf_22 : decode cX7_waysOf 22 = .ok (.lconst 0, 1) := by decide +kernel
theorem dX7_waysOf_23 : decode cX7_waysOf 23 = .ok (.lreturn, 1) := by decide +kernel
theorem dX7_inLowest_0 : decode cX7_inLowest 0 = .ok (.lload_n 3, 1) := by decide +kernel
theorem dX7_inLowest_1 : decode cX7_inLowest 1 = .ok (.aload_n 0, 1) := by decide +kernel
theorem dX7_inLowest_2 : decode cX7_inLowest 2 = .ok (.getfield 15, 3) := by decide +kernel
theorem dX7_inLowest_5 : decode cX7_inLowest 5 = .ok (.invokestatic 66, 3) := by decide +kernel
theorem dX7_inLowest_8 : decode cX7_inLowest 8 = .ok (.lstore 5, 2) := by decide +kernel
theorem dX7_inLowest_10 : decode cX7_inLowest 10 = .ok (.lload 5, 2) := by decide +kernel
theorem dX7_inLowest_12 : decode cX7_inLowest 12 = .ok (.lconst 0, 1) := by decide +kernel
theorem dX7_inLowest_13 : decode cX7_inLowest 13 = .ok (.lcmp, 1) := by decide +kernel
theorem dX7_inLowest_14 : decode cX7_inLowest 14 = .ok (.ifCond .ne 7, 3) := by decide +kernel
theorem dX7_inLowest_17 : decode cX7_inLowest 17 = .ok (.lload_n 1, 1) := by decide +kernel
theorem dX7_inLowest_18 : decode cX7_inLowest 18 = .ok (.goto 7, 3) := by decide +kernel
theorem dX7_inLowest_21 : decode cX7_inLowest 21 = .ok (.lload_n 1, 1) := by decide +kernel
theorem dX7_inLowest_22 : decode cX7_inLowest 22 = .ok (.lload 5, 2) := by decide +kernel
theorem dX7_inLowest_24 : decode cX7_inLowest 24 = .ok (.ldiv, 1) := by decide +kernel
theorem dX7_inLowest_25 : decode cX7_inLowest 25 = .ok (.lreturn, 1) := by decide +kernel
theorem dX7_commonDivisor_0 : decode cX7_commonDivisor 0 = .ok (.lload_n 0, 1) := by decide +kernel
theorem dX7_commonDivisor_1 : decode cX7_commonDivisor 1 = .ok (.lstore 4, 2) := by decide +kernel
theorem dX7_commonDivisor_3 : decode cX7_commonDivisor 3 = .ok (.lload_n 2, 1) := by decide +kernel
theorem dX7_commonDivisor_4 : decode cX7_commonDivisor 4 = .ok (.lstore 6, 2) := by decide +kernel
theorem dX7_commonDivisor_6 : decode cX7_commonDivisor 6 = .ok (.iconst 0, 1) := by decide +kernel
theorem dX7_commonDivisor_7 : decode cX7_commonDivisor 7 = .ok (.istore 8, 2) := by decide +kernel
theorem dX7_commonDivisor_9 : decode cX7_commonDivisor 9 = .ok (.iload 8, 2) := by decide +kernel
theorem dX7_commonDivisor_11 : decode cX7_commonDivisor 11 = .ok (.sipush 200, 3) := by decide +kernel
theorem dX7_commonDivisor_14 : decode cX7_commonDivisor 14 = .ok (.if_icmp .ge 31, 3) := by decide +kernel
theorem dX7_commonDivisor_17 : decode cX7_commonDivisor 17 = .ok (.lload 6, 2) := by decide +kernel
theorem dX7_commonDivisor_19 : decode cX7_commonDivisor 19 = .ok (.lconst 0, 1) := by decide +kernel
theorem dX7_commonDivisor_20 : decode cX7_commonDivisor 20 = .ok (.lcmp, 1) := by decide +kernel
theorem dX7_commonDivisor_21 : decode cX7_commonDivisor 21 = .ok (.ifCond .eq 24, 3) := by decide +kernel
theorem dX7_commonDivisor_24 : decode cX7_commonDivisor 24 = .ok (.lload 4, 2) := by decide +kernel
theorem dX7_commonDivisor_26 : decode cX7_commonDivisor 26 = .ok (.lload 6, 2) := by decide +kernel
theorem dX7_commonDivisor_28 : decode cX7_commonDivisor 28 = .ok (.lrem, 1) := by decide +kernel
theorem dX7_commonDivisor_29 : decode cX7_commonDivisor 29 = .ok (.lstore 9, 2) := by decide +kernel
theorem dX7_commonDivisor_31 : decode cX7_commonDivisor 31 = .ok (.lload 6, 2) := by decide +kernel
theorem dX7_commonDivisor_33 : decode cX7_commonDivisor 33 = .ok (.lstore 4, 2) := by decide +kernel
theorem dX7_commonDivisor_35 : decode cX7_commonDivisor 35 = .ok (.lload 9, 2) := by decide +kernel
theorem dX7_commonDivisor_37 : decode cX7_commonDivisor 37 = .ok (.lstore 6, 2) := by decide +kernel
theorem dX7_commonDivisor_39 : decode cX7_commonDivisor 39 = .ok (.iinc 8 1, 3) := by decide +kernel
theorem dX7_commonDivisor_42 : decode cX7_commonDivisor 42 = .ok (.goto (-33), 3) := by decide +kernel
theorem dX7_commonDivisor_45 : decode cX7_commonDivisor 45 = .ok (.lload 4, 2) := by decide +kernel
theorem dX7_commonDivisor_47 : decode cX7_commonDivisor 47 = .ok (.lreturn, 1) := by decide +kernel
theorem dX8_init_0 : decode cX8_init 0 = .ok (.aload_n 0, 1) := by decide +kernel
theorem dX8_init_1 : decode cX8_init 1 = .ok (.invokespecial 3, 3) := by decide +kernel
theorem dX8_init_4 : decode cX8_init 4 = .ok (.aload_n 0, 1) := by decide +kernel
theorem dX8_init_5 : decode cX8_init 5 = .ok (.bipush 40, 2) := by decide +kernel
theorem dX8_init_7 : decode cX8_init 7 = .ok (.newarray .int, 2) := by decide +kernel
theorem dX8_init_9 : decode cX8_init 9 = .ok (.putfield 9, 3) := by decide +kernel
theorem dX8_init_12 : decode cX8_init 12 = .ok (.aload_n 0, 1) := by decide +kernel
theorem dX8_init_13 : decode cX8_init 13 = .ok (.iconst 0, 1) := by decide +kernel
theorem dX8_init_14 : decode cX8_init 14 = .ok (.putfield 15, 3) := by decide +kernel
theorem dX8_init_17 : decode cX8_init 17 = .ok (.aload_n 0, 1) := by decide +kernel
theorem dX8_init_18 : decode cX8_init 18 = .ok (.iconst 0, 1) := by decide +kernel
theorem dX8_init_19 : decode cX8_init 19 = .ok (.putfield 19, 3) := by decide +kernel
theorem dX8_init_22 : decode cX8_init 22 = .ok (.aload_n 0, 1) := by decide +kernel
theorem dX8_init_23 : decode cX8_init 23 = .ok (.iconst 0, 1) := by decide +kernel
theorem dX8_init_24 : decode cX8_init 24 = .ok (.putfield 22, 3) := by decide +kernel
theorem dX8_init_27 : decode cX8_init 27 = .ok (.return_, 1) := by decide +kernel
theorem dX8_write_0 : decode cX8_write 0 = .ok (.aload_n 0, 1) := by decide +kernel
theorem dX8_write_1 : decode cX8_write 1 = .ok (.getfield 15, 3) := by decide +kernel
theorem dX8_write_4 : decode cX8_write 4 = .ok (.aload_n 0, 1) := by decide +kernel
theorem dX8_write_5 : decode cX8_write 5 = .ok (.getfield 9, 3) := by decide +kernel
theorem dX8_write_8 : decode cX8_write 8 = .ok (.arraylength, 1) := by decide +kernel
theorem dX8_write_9 : decode cX8_write 9 = .ok (.if_icmp .lt 5, 3) := by decide +kernel
theorem dX8_write_12 : decode cX8_write 12 = .ok (.iconst 0, 1) := by decide +kernel
theorem dX8_write_13 : decode cX8_write 13 = .ok (.ireturn, 1) := by decide +kernel
theorem dX8_write_14 : decode cX8_write 14 = .ok (.aload_n 0, 1) := by decide +kernel
theorem dX8_write_15 : decode cX8_write 15 = .ok (.getfield 9, 3) := by decide +kernel
theorem dX8_write_18 : decode cX8_write 18 = .ok (.aload_n 0, 1) := by decide +kernel
theorem dX8_write_19 : decode cX8_write 19 = .ok (.getfield 15, 3) := by decide +kernel
theorem dX8_write_22 : decode cX8_write 22 = .ok (.iload_n 1, 1) := by decide +kernel
theorem dX8_write_23 : decode cX8_write 23 = .ok (.iastore, 1) := by decide +kernel
theorem dX8_write_24 : decode cX8_write 24 = .ok (.aload_n 0, 1) := by decide +kernel
theorem dX8_write_25 : decode cX8_write 25 = .ok (.dup, 1) := by decide +kernel
theorem dX8_write_26 : decode cX8_write 26 = .ok (.getfield 15, 3) := by decide +kernel
theorem dX8_write_29 : decode cX8_write 29 = .ok (.iconst 1, 1) := by decide +kernel
theorem dX8_write_30 : decode cX8_write 30 = .ok (.iadd, 1) := by decide +kernel
theorem dX8_write_31 : decode cX8_write 31 = .ok (.putfield 15, 3) := by decide +kernel
theorem dX8_write_34 : decode cX8_write 34 = .ok (.iconst 1, 1) := by decide +kernel
theorem dX8_write_35 : decode cX8_write 35 = .ok (.ireturn, 1) := by decide +kernel
theorem dX8_wipe_0 : decode cX8_wipe 0 = .ok (.aload_n 0, 1) := by decide +kernel
theorem dX8_wipe_1 : decode cX8_wipe 1 = .ok (.getfield 15, 3) := by decide +kernel
theorem dX8_wipe_4 : decode cX8_wipe 4 = .ok (.istore_n 1, 1) := by decide +kernel
theorem dX8_wipe_5 : decode cX8_wipe 5 = .ok (.aload_n 0, 1) := by decide +kernel
theorem dX8_wipe_6 : decode cX8_wipe 6 = .ok (.iconst 0, 1) := by decide +kernel
theorem dX8_wipe_7 : decode cX8_wipe 7 = .ok (.putfield 15, 3) := by decide +kernel
theorem dX8_wipe_10 : decode cX8_wipe 10 = .ok (.iload_n 1, 1) := by decide +kernel
theorem dX8_wipe_11 : decode cX8_wipe 11 = .ok (.ireturn, 1) := by decide +kernel
theorem dX8_codeAt_0 : decode cX8_codeAt 0 = .ok (.iload_n 1, 1) := by decide +kernel
theorem dX8_codeAt_1 : decode cX8_codeAt 1 = .ok (.ifCond .lt 20, 3) := by decide +kernel
theorem dX8_codeAt_4 : decode cX8_codeAt 4 = .ok (.iload_n 1, 1) := by decide +kernel
theorem dX8_codeAt_5 : decode cX8_codeAt 5 = .ok (.aload_n 0, 1) := by decide +kernel
theorem dX8_codeAt_6 : decode cX8_codeAt 6 = .ok (.getfield 15, 3) := by decide +kernel
theorem dX8_codeAt_9 : decode cX8_codeAt 9 = .ok (.if_icmp .ge 12, 3) := by decide +kernel
theorem dX8_codeAt_12 : decode cX8_codeAt 12 = .ok (.aload_n 0, 1) := by decide +kernel
theorem dX8_codeAt_13 : decode cX8_codeAt 13 = .ok (.getfield 9, 3) := by decide +kernel
theorem dX8_codeAt_16 : decode cX8_codeAt 16 = .ok (.iload_n 1, 1) := by decide +kernel
theorem dX8_codeAt_17 : decode cX8_codeAt 17 = .ok (.iaload, 1) := by decide +kernel
theorem dX8_codeAt_18 : decode cX8_codeAt 18 = .ok (.goto 4, 3) := by decide +kernel
theorem dX8_codeAt_21 : decode cX8_codeAt 21 = .ok (.iconst 0, 1) := by decide +kernel
theorem dX8_codeAt_22 : decode cX8_codeAt 22 = .ok (.ireturn, 1) := by decide +kernel
theorem dX8_isList_0 : decode cX8_isList 0 = .ok (.aload_n 0, 1) := by decide +kernel
theorem dX8_isList_1 : decode cX8_isList 1 = .ok (.invokevirtual 25, 3) := by decide +kernel
theorem dX8_isList_4 : decode cX8_isList 4 = .ok (.aload_n 0, 1) := by decide +kernel
theorem dX8_isList_5 : decode cX8_isList 5 = .ok (.getfield 19, 3) := by decide +kernel
theorem dX8_isList_8 : decode cX8_isList 8 = .ok (.aload_n 0, 1) := by decide +kernel
theorem dX8_isList_9 : decode cX8_isList 9 = .ok (.getfield 15, 3) := by decide +kernel
theorem dX8_isList_12 : decode cX8_isList 12 = .ok (.if_icmp .ne 15, 3) := by decide +kernel
theorem dX8_isList_15 : decode cX8_isList 15 = .ok (.aload_n 0, 1) := by decide +kernel
theorem dX8_isList_16 : decode cX8_isList 16 = .ok (.getfield 22, 3) := by decide +kernel
theorem dX8_isList_19 : decode cX8_isList 19 = .ok (.iconst 4, 1) := by decide +kernel
theorem dX8_isList_20 : decode cX8_isList 20 = .ok (.if_icmp .ne 7, 3) := by decide +kernel
theorem dX8_isList_23 : decode cX8_isList 23 = .ok (.iconst 1, 1) := by decide +kernel
theorem dX8_isList_24 : decode cX8_isList 24 = .ok (.goto 4, 3) := by decide +kernel
theorem dX8_isList_27 : decode cX8_isList 27 = .ok (.iconst 0, 1) := by decide +kernel
theorem dX8_isList_28 : decode cX8_isList 28 = .ok (.ireturn, 1) := by decide +kernel
theorem dX8_scan_0 : decode cX8_scan 0 = .ok (.iconst 0, 1) := by decide +kernel
theorem dX8_scan_1 : decode cX8_scan 1 = .ok (.istore_n 1, 1) := by decide +kernel
theorem dX8_scan_2 : decode cX8_scan 2 = .ok (.iconst 0, 1) := by decide +kernel
theorem dX8_scan_3 : decode cX8_scan 3 = .ok (.istore_n 2, 1) := by decide +kernel
theorem dX8_scan_4 : decode cX8_scan 4 = .ok (.iconst 0, 1) := by decide +kernel
theorem dX8_scan_5 : decode cX8_scan 5 = .ok (.istore_n 3, 1) := by decide +kernel
theorem dX8_scan_6 : decode cX8_scan 6 = .ok (.iload_n 3, 1) := by decide +kernel
theorem dX8_scan_7 : decode cX8_scan 7 = .ok (.aload_n 0, 1) := by decide +kernel
theorem dX8_scan_8 : decode cX8_scan 8 = .ok (.getfield 15, 3) := by decide +kernel
theorem dX8_scan_11 : decode cX8_scan 11 = .ok (.if_icmp .ge 39, 3) := by decide +kernel
theorem dX8_scan_14 : decode cX8_scan 14 = .ok (.aload_n 0, 1) := by decide +kernel
theorem dX8_scan_15 : decode cX8_scan 15 = .ok (.iload_n 1, 1) := by decide +kernel
theorem dX8_scan_16 : decode cX8_scan 16 = .ok (.iload_n 3, 1) := by decide +kernel
theorem dX8_scan_17 : decode cX8_scan 17 = .ok (.iload_n 2, 1) := by decide +kernel
theorem dX8_scan_18 : decode cX8_scan 18 = .ok (.invokevirtual 28, 3) := by decide +kernel
theorem dX8_scan_21 : decode cX8_scan 21 = .ok (.istore 4, 2) := by decide +kernel
theorem dX8_scan_23 : decode cX8_scan 23 = .ok (.iload 4, 2) := by decide +kernel
theorem dX8_scan_25 : decode cX8_scan 25 = .ok (.iconst (-1), 1) := by decide +kernel
theorem dX8_scan_26 : decode cX8_scan 26 = .ok (.if_icmp .ne 6, 3) := by decide +kernel
theorem dX8_scan_29 : decode cX8_scan 29 = .ok (.goto 21, 3) := by decide +kernel
theorem dX8_scan_32 : decode cX8_scan 32 = .ok (.iload 4, 2) := by decide +kernel
theorem dX8_scan_34 : decode cX8_scan 34 = .ok (.iconst 4, 1) := by decide +kernel
theorem dX8_scan_35 : decode cX8_scan 35 = .ok (.if_icmp .ne 6, 3) := by decide +kernel
theorem dX8_scan_38 : decode cX8_scan 38 = .ok (.iinc 2 1, 3) := by decide +kernel
theorem dX8_scan_41 : decode cX8_scan 41 = .ok (.iload 4, 2) := by decide +kernel
theorem dX8_scan_43 : decode cX8_scan 43 = .ok (.istore_n 1, 1) := by decide +kernel
theorem dX8_scan_44 : decode cX8_scan 44 = .ok (.iinc 3 1, 3) := by decide +kernel
theorem dX8_scan_47 : decode cX8_scan 47 = .ok (.goto (-41), 3) := by decide +kernel
theorem dX8_scan_50 : decode cX8_scan 50 = .ok (.aload_n 0, 1) := by decide +kernel
theorem dX8_scan_51 : decode cX8_scan 51 = .ok (.iload_n 3, 1) := by decide +kernel
theorem dX8_scan_52 : decode cX8_scan 52 = .ok (.putfield 19, 3) := by decide +kernel
theorem dX8_scan_55 : decode cX8_scan 55 = .ok (.aload_n 0, 1) := by decide +kernel
theorem dX8_scan_56 : decode cX8_scan 56 = .ok (.iload_n 1, 1) := by decide +kernel
theorem dX8_scan_57 : decode cX8_scan 57 = .ok (.putfield 22, 3) := by decide +kernel
theorem dX8_scan_60 : decode cX8_scan 60 = .ok (.return_, 1) := by decide +kernel
theorem dX8_stageBehind_0 : decode cX8_stageBehind 0 = .ok (.aload_n 0, 1) := by decide +kernel
theorem dX8_stageBehind_1 : decode cX8_stageBehind 1 = .ok (.iload_n 2, 1) := by decide +kernel
theorem dX8_stageBehind_2 : decode cX8_stageBehind 2 = .ok (.invokevirtual 32, 3) := by decide +kernel
theorem dX8_stageBehind_5 : decode cX8_stageBehind 5 = .ok (.istore 4, 2) := by decide +kernel
theorem dX8_stageBehind_7 : decode cX8_stageBehind 7 = .ok (.iload_n 1, 1) := by decide +kernel
theorem dX8_stageBehind_8 : decode cX8_stageBehind 8 = .ok (.tableswitch 116 0 3 #[32, 56, 70, 96], 32) := by decide +kernel
theorem dX8_stageBehind_40 : decode cX8_stageBehind 40 = .ok (.iload 4, 2) := by decide +kernel
theorem dX8_stageBehind_42 : decode cX8_stageBehind 42 = .ok (.invokestatic 36, 3) := by decide +kernel
theorem dX8_stageBehind_45 : decode cX8_stageBehind 45 = .ok (.ifCond .eq 5, 3) := by decide +kernel
theorem dX8_stageBehind_48 : decode cX8_stageBehind 48 = .ok (.iconst 1, 1) := by decide +kernel
theorem dX8_stageBehind_49 : decode cX8_stageBehind 49 = .ok (.ireturn, 1) := by decide +kernel
theorem dX8_stageBehind_50 : decode cX8_stageBehind 50 = .ok (.iload 4, 2) := by decide +kernel
theorem dX8_stageBehind_52 : decode cX8_stageBehind 52 = .ok (.invokestatic 41, 3) := by decide +kernel
theorem dX8_stageBehind_55 : decode cX8_stageBehind 55 = .ok (.ifCond .eq 7, 3) := by decide +kernel
theorem dX8_stageBehind_58 : decode cX8_stageBehind 58 = .ok (.iconst 2, 1) := by decide +kernel
theorem dX8_stageBehind_59 : decode cX8_stageBehind 59 = .ok (.goto 4, 3) := by decide +kernel
theorem dX8_stageBehind_62 : decode cX8_stageBehind 62 = .ok (.iconst (-1), 1) := by decide +kernel
theorem dX8_stageBehind_63 : decode cX8_stageBehind 63 = .ok (.ireturn, 1) := by decide +kernel
theorem dX8_stageBehind_64 : decode cX8_stageBehind 64 = .ok (.iload 4, 2) := by decide +kernel
theorem dX8_stageBehind_66 : decode cX8_stageBehind 66 = .ok (.invokestatic 41, 3) := by decide +kernel
theorem dX8_stageBehind_69 : decode cX8_stageBehind 69 = .ok (.ifCond .eq 7, 3) := by decide +kernel
theorem dX8_stageBehind_72 : decode cX8_stageBehind 72 = .ok (.iconst 2, 1) := by decide +kernel
theorem dX8_stageBehind_73 : decode cX8_stageBehind 73 = .ok (.goto 4, 3) := by decide +kernel
theorem dX8_stageBehind_76 : decode cX8_stageBehind 76 = .ok (.iconst (-1), 1) := by decide +kernel
theorem dX8_stageBehind_77 : decode cX8_stageBehind 77 = .ok (.ireturn, 1) := by decide +kernel
theorem dX8_stageBehind_78 : decode cX8_stageBehind 78 = .ok (.iload 4, 2) := by decide +kernel
theorem dX8_stageBehind_80 : decode cX8_stageBehind 80 = .ok (.invokestatic 41, 3) := by decide +kernel
theorem dX8_stageBehind_83 : decode cX8_stageBehind 83 = .ok (.ifCond .eq 19, 3) := by decide +kernel
theorem dX8_stageBehind_86 : decode cX8_stageBehind 86 = .ok (.iload 4, 2) := by decide +kernel
theorem dX8_stageBehind_88 : decode cX8_stageBehind 88 = .ok (.aload_n 0, 1) := by decide +kernel
