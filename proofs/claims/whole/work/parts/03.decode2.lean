theorem dX8_stageBehind_89 : decode cX8_stageBehind 89 = .ok (.iload_n 2, 1) := by decide +kernel
theorem dX8_stageBehind_90 : decode cX8_stageBehind 90 = .ok (.iconst 1, 1) := by decide +kernel
theorem dX8_stageBehind_91 : decode cX8_stageBehind 91 = .ok (.isub, 1) := by decide +kernel
theorem dX8_stageBehind_92 : decode cX8_stageBehind 92 = .ok (.invokevirtual 32, 3) := by decide +kernel
theorem dX8_stageBehind_95 : decode cX8_stageBehind 95 = .ok (.if_icmp .eq 7, 3) := by decide +kernel
theorem dX8_stageBehind_98 : decode cX8_stageBehind 98 = .ok (.iconst 3, 1) := by decide +kernel
theorem dX8_stageBehind_99 : decode cX8_stageBehind 99 = .ok (.goto 4, 3) := by decide +kernel
theorem dX8_stageBehind_102 : decode cX8_stageBehind 102 = .ok (.iconst (-1), 1) := by decide +kernel
theorem dX8_stageBehind_103 : decode cX8_stageBehind 103 = .ok (.ireturn, 1) := by decide +kernel
theorem dX8_stageBehind_104 : decode cX8_stageBehind 104 = .ok (.iload 4, 2) := by decide +kernel
theorem dX8_stageBehind_106 : decode cX8_stageBehind 106 = .ok (.bipush 49, 2) := by decide +kernel
theorem dX8_stageBehind_108 : decode cX8_stageBehind 108 = .ok (.if_icmp .lt 14, 3) := by decide +kernel
theorem dX8_stageBehind_111 : decode cX8_stageBehind 111 = .ok (.iload 4, 2) := by decide +kernel
theorem dX8_stageBehind_113 : decode cX8_stageBehind 113 = .ok (.bipush 57, 2) := by decide +kernel
theorem dX8_stageBehind_115 : decode cX8_stageBehind 115 = .ok (.if_icmp .gt 7, 3) := by decide +kernel
theorem dX8_stageBehind_118 : decode cX8_stageBehind 118 = .ok (.iconst 4, 1) := by decide +kernel
theorem dX8_stageBehind_119 : decode cX8_stageBehind 119 = .ok (.goto 4, 3) := by decide +kernel
theorem dX8_stageBehind_122 : decode cX8_stageBehind 122 = .ok (.iconst (-1), 1) := by decide +kernel
theorem dX8_stageBehind_123 : decode cX8_stageBehind 123 = .ok (.ireturn, 1) := by decide +kernel
theorem dX8_stageBehind_124 : decode cX8_stageBehind 124 = .ok (.iload 4, 2) := by decide +kernel
theorem dX8_stageBehind_126 : decode cX8_stageBehind 126 = .ok (.bipush 44, 2) := by decide +kernel
theorem dX8_stageBehind_128 : decode cX8_stageBehind 128 = .ok (.if_icmp .ne 13, 3) := by decide +kernel
theorem dX8_stageBehind_131 : decode cX8_stageBehind 131 = .ok (.iload_n 3, 1) := by decide +kernel
theorem dX8_stageBehind_132 : decode cX8_stageBehind 132 = .ok (.bipush 8, 2) := by decide +kernel
theorem dX8_stageBehind_134 : decode cX8_stageBehind 134 = .ok (.if_icmp .ge 7, 3) := by decide +kernel
theorem dX8_stageBehind_137 : decode cX8_stageBehind 137 = .ok (.iconst 0, 1) := by decide +kernel
theorem dX8_stageBehind_138 : decode cX8_stageBehind 138 = .ok (.goto 4, 3) := by decide +kernel
theorem dX8_stageBehind_141 : decode cX8_stageBehind 141 = .ok (.iconst (-1), 1) := by decide +kernel
theorem dX8_stageBehind_142 : decode cX8_stageBehind 142 = .ok (.ireturn, 1) := by decide +kernel
theorem dX8_namesPerson_0 : decode cX8_namesPerson 0 = .ok (.iload_n 0, 1) := by decide +kernel
theorem dX8_namesPerson_1 : decode cX8_namesPerson 1 = .ok (.bipush 48, 2) := by decide +kernel
theorem dX8_namesPerson_3 : decode cX8_namesPerson 3 = .ok (.if_icmp .lt 13, 3) := by decide +kernel
theorem dX8_namesPerson_6 : decode cX8_namesPerson 6 = .ok (.iload_n 0, 1) := by decide +kernel
theorem dX8_namesPerson_7 : decode cX8_namesPerson 7 = .ok (.bipush 53, 2) := by decide +kernel
theorem dX8_namesPerson_9 : decode cX8_namesPerson 9 = .ok (.if_icmp .gt 7, 3) := by decide +kernel
theorem dX8_namesPerson_12 : decode cX8_namesPerson 12 = .ok (.iconst 1, 1) := by decide +kernel
theorem dX8_namesPerson_13 : decode cX8_namesPerson 13 = .ok (.goto 4, 3) := by decide +kernel
theorem dX8_namesPerson_16 : decode cX8_namesPerson 16 = .ok (.iconst 0, 1) := by decide +kernel
theorem dX8_namesPerson_17 : decode cX8_namesPerson 17 = .ok (.ireturn, 1) := by decide +kernel
theorem dX9_init_0 : decode cX9_init 0 = .ok (.aload_n 0, 1) := by decide +kernel
theorem dX9_init_1 : decode cX9_init 1 = .ok (.iload_n 1, 1) := by decide +kernel
theorem dX9_init_2 : decode cX9_init 2 = .ok (.invokespecial 3, 3) := by decide +kernel
theorem dX9_init_5 : decode cX9_init 5 = .ok (.return_, 1) := by decide +kernel
theorem dX9_kind_0 : decode cX9_kind 0 = .ok (.iconst 4, 1) := by decide +kernel
theorem dX9_kind_1 : decode cX9_kind 1 = .ok (.ireturn, 1) := by decide +kernel
theorem dX9_fullPrice_0 : decode cX9_fullPrice 0 = .ok (.aload_n 0, 1) := by decide +kernel
theorem dX9_fullPrice_1 : decode cX9_fullPrice 1 = .ok (.invokespecial 9, 3) := by decide +kernel
theorem dX9_fullPrice_4 : decode cX9_fullPrice 4 = .ok (.iconst 3, 1) := by decide +kernel
theorem dX9_fullPrice_5 : decode cX9_fullPrice 5 = .ok (.iadd, 1) := by decide +kernel
theorem dX9_fullPrice_6 : decode cX9_fullPrice 6 = .ok (.ireturn, 1) := by decide +kernel
theorem dX10_init_0 : decode cX10_init 0 = .ok (.aload_n 0, 1) := by decide +kernel
theorem dX10_init_1 : decode cX10_init 1 = .ok (.invokespecial 3, 3) := by decide +kernel
theorem dX10_init_4 : decode cX10_init 4 = .ok (.aload_n 0, 1) := by decide +kernel
theorem dX10_init_5 : decode cX10_init 5 = .ok (.bipush 8, 2) := by decide +kernel
theorem dX10_init_7 : decode cX10_init 7 = .ok (.anewarray 9, 3) := by decide +kernel
theorem dX10_init_10 : decode cX10_init 10 = .ok (.putfield 11, 3) := by decide +kernel
theorem dX10_init_13 : decode cX10_init 13 = .ok (.aload_n 0, 1) := by decide +kernel
theorem dX10_init_14 : decode cX10_init 14 = .ok (.bipush 16, 2) := by decide +kernel
theorem dX10_init_16 : decode cX10_init 16 = .ok (.newarray .int, 2) := by decide +kernel
theorem dX10_init_18 : decode cX10_init 18 = .ok (.putfield 17, 3) := by decide +kernel
theorem dX10_init_21 : decode cX10_init 21 = .ok (.aload_n 0, 1) := by decide +kernel
theorem dX10_init_22 : decode cX10_init 22 = .ok (.iconst 0, 1) := by decide +kernel
theorem dX10_init_23 : decode cX10_init 23 = .ok (.putfield 21, 3) := by decide +kernel
theorem dX10_init_26 : decode cX10_init 26 = .ok (.iconst 0, 1) := by decide +kernel
theorem dX10_init_27 : decode cX10_init 27 = .ok (.istore_n 1, 1) := by decide +kernel
theorem dX10_init_28 : decode cX10_init 28 = .ok (.iload_n 1, 1) := by decide +kernel
theorem dX10_init_29 : decode cX10_init 29 = .ok (.bipush 8, 2) := by decide +kernel
theorem dX10_init_31 : decode cX10_init 31 = .ok (.if_icmp .ge 23, 3) := by decide +kernel
theorem dX10_init_34 : decode cX10_init 34 = .ok (.aload_n 0, 1) := by decide +kernel
theorem dX10_init_35 : decode cX10_init 35 = .ok (.getfield 11, 3) := by decide +kernel
theorem dX10_init_38 : decode cX10_init 38 = .ok (.iload_n 1, 1) := by decide +kernel
theorem dX10_init_39 : decode cX10_init 39 = .ok (.new 9, 3) := by decide +kernel
theorem dX10_init_42 : decode cX10_init 42 = .ok (.dup, 1) := by decide +kernel
theorem dX10_init_43 : decode cX10_init 43 = .ok (.iconst 1, 1) := by decide +kernel
theorem dX10_init_44 : decode cX10_init 44 = .ok (.invokespecial 25, 3) := by decide +kernel
theorem dX10_init_47 : decode cX10_init 47 = .ok (.aastore, 1) := by decide +kernel
theorem dX10_init_48 : decode cX10_init 48 = .ok (.iinc 1 1, 3) := by decide +kernel
theorem dX10_init_51 : decode cX10_init 51 = .ok (.goto (-23), 3) := by decide +kernel
theorem dX10_init_54 : decode cX10_init 54 = .ok (.return_, 1) := by decide +kernel
theorem dX10_readFrom_0 : decode cX10_readFrom 0 = .ok (.iconst 0, 1) := by decide +kernel
theorem dX10_readFrom_1 : decode cX10_readFrom 1 = .ok (.istore_n 2, 1) := by decide +kernel
theorem dX10_readFrom_2 : decode cX10_readFrom 2 = .ok (.aload_n 0, 1) := by decide +kernel
theorem dX10_readFrom_3 : decode cX10_readFrom 3 = .ok (.iconst 0, 1) := by decide +kernel
theorem dX10_readFrom_4 : decode cX10_readFrom 4 = .ok (.putfield 21, 3) := by decide +kernel
theorem dX10_readFrom_7 : decode cX10_readFrom 7 = .ok (.aload_n 0, 1) := by decide +kernel
theorem dX10_readFrom_8 : decode cX10_readFrom 8 = .ok (.getfield 21, 3) := by decide +kernel
theorem dX10_readFrom_11 : decode cX10_readFrom 11 = .ok (.bipush 8, 2) := by decide +kernel
theorem dX10_readFrom_13 : decode cX10_readFrom 13 = .ok (.if_icmp .ge 108, 3) := by decide +kernel
theorem dX10_readFrom_16 : decode cX10_readFrom 16 = .ok (.iload_n 2, 1) := by decide +kernel
theorem dX10_readFrom_17 : decode cX10_readFrom 17 = .ok (.aload_n 1, 1) := by decide +kernel
theorem dX10_readFrom_18 : decode cX10_readFrom 18 = .ok (.getfield 28, 3) := by decide +kernel
theorem dX10_readFrom_21 : decode cX10_readFrom 21 = .ok (.if_icmp .ge 100, 3) := by decide +kernel
theorem dX10_readFrom_24 : decode cX10_readFrom 24 = .ok (.aload_n 1, 1) := by decide +kernel
theorem dX10_readFrom_25 : decode cX10_readFrom 25 = .ok (.iload_n 2, 1) := by decide +kernel
theorem dX10_readFrom_26 : decode cX10_readFrom 26 = .ok (.invokevirtual 33, 3) := by decide +kernel
theorem dX10_readFrom_29 : decode cX10_readFrom 29 = .ok (.invokestatic 37, 3) := by decide +kernel
theorem dX10_readFrom_32 : decode cX10_readFrom 32 = .ok (.istore_n 3, 1) := by decide +kernel
theorem dX10_readFrom_33 : decode cX10_readFrom 33 = .ok (.iload_n 3, 1) := by decide +kernel
theorem dX10_readFrom_34 : decode cX10_readFrom 34 = .ok (.ifCond .eq 6, 3) := by decide +kernel
theorem dX10_readFrom_37 : decode cX10_readFrom 37 = .ok (.iinc 2 1, 3) := by decide +kernel
theorem dX10_readFrom_40 : decode cX10_readFrom 40 = .ok (.aload_n 0, 1) := by decide +kernel
theorem dX10_readFrom_41 : decode cX10_readFrom 41 = .ok (.getfield 17, 3) := by decide +kernel
theorem dX10_readFrom_44 : decode cX10_readFrom 44 = .ok (.iconst 2, 1) := by decide +kernel
theorem dX10_readFrom_45 : decode cX10_readFrom 45 = .ok (.aload_n 0, 1) := by decide +kernel
theorem dX10_readFrom_46 : decode cX10_readFrom 46 = .ok (.getfield 21, 3) := by decide +kernel
theorem dX10_readFrom_49 : decode cX10_readFrom 49 = .ok (.imul, 1) := by decide +kernel
theorem dX10_readFrom_50 : decode cX10_readFrom 50 = .ok (.aload_n 1, 1) := by decide +kernel
theorem dX10_readFrom_51 : decode cX10_readFrom 51 = .ok (.iload_n 2, 1) := by decide +kernel
theorem dX10_readFrom_52 : decode cX10_readFrom 52 = .ok (.invokevirtual 33, 3) := by decide +kernel
theorem dX10_readFrom_55 : decode cX10_readFrom 55 = .ok (.bipush 48, 2) := by decide +kernel
theorem dX10_readFrom_57 : decode cX10_readFrom 57 = .ok (.isub, 1) := by decide +kernel
theorem dX10_readFrom_58 : decode cX10_readFrom 58 = .ok (.iastore, 1) := by decide +kernel
theorem dX10_readFrom_59 : decode cX10_readFrom 59 = .ok (.aload_n 0, 1) := by decide +kernel
theorem dX10_readFrom_60 : decode cX10_readFrom 60 = .ok (.getfield 17, 3) := by decide +kernel
theorem dX10_readFrom_63 : decode cX10_readFrom 63 = .ok (.iconst 2, 1) := by decide +kernel
theorem dX10_readFrom_64 : decode cX10_readFrom 64 = .ok (.aload_n 0, 1) := by decide +kernel
theorem dX10_readFrom_65 : decode cX10_readFrom 65 = .ok (.getfield 21, 3) := by decide +kernel
theorem dX10_readFrom_68 : decode cX10_readFrom 68 = .ok (.imul, 1) := by decide +kernel
theorem dX10_readFrom_69 : decode cX10_readFrom 69 = .ok (.iconst 1, 1) := by decide +kernel
theorem dX10_readFrom_70 : decode cX10_readFrom 70 = .ok (.iadd, 1) := by decide +kernel
theorem dX10_readFrom_71 : decode cX10_readFrom 71 = .ok (.aload_n 1, 1) := by decide +kernel
theorem dX10_readFrom_72 : decode cX10_readFrom 72 = .ok (.iload_n 2, 1) := by decide +kernel
theorem dX10_readFrom_73 : decode cX10_readFrom 73 = .ok (.iconst 1, 1) := by decide +kernel
theorem dX10_readFrom_74 : decode cX10_readFrom 74 = .ok (.iadd, 1) := by decide +kernel
theorem dX10_readFrom_75 : decode cX10_readFrom 75 = .ok (.invokevirtual 33, 3) := by decide +kernel
theorem dX10_readFrom_78 : decode cX10_readFrom 78 = .ok (.bipush 48, 2) := by decide +kernel
theorem dX10_readFrom_80 : decode cX10_readFrom 80 = .ok (.isub, 1) := by decide +kernel
theorem dX10_readFrom_81 : decode cX10_readFrom 81 = .ok (.iastore, 1) := by decide +kernel
theorem dX10_readFrom_82 : decode cX10_readFrom 82 = .ok (.aload_n 0, 1) := by decide +kernel
theorem dX10_readFrom_83 : decode cX10_readFrom 83 = .ok (.getfield 11, 3) := by decide +kernel
theorem dX10_readFrom_86 : decode cX10_readFrom 86 = .ok (.aload_n 0, 1) := by decide +kernel
theorem dX10_readFrom_87 : decode cX10_readFrom 87 = .ok (.getfield 21, 3) := by decide +kernel
theorem dX10_readFrom_90 : decode cX10_readFrom 90 = .ok (.iload_n 3, 1) := by decide +kernel
theorem dX10_readFrom_91 : decode cX10_readFrom 91 = .ok (.aload_n 1, 1) := by decide +kernel
theorem dX10_readFrom_92 : decode cX10_readFrom 92 = .ok (.iload_n 2, 1) := by decide +kernel
theorem dX10_readFrom_93 : decode cX10_readFrom 93 = .ok (.iconst 2, 1) := by decide +kernel
theorem dX10_readFrom_94 : decode cX10_readFrom 94 = .ok (.iadd, 1) := by decide +kernel
theorem dX10_readFrom_95 : decode cX10_readFrom 95 = .ok (.invokevirtual 33, 3) := by decide +kernel
theorem dX10_readFrom_98 : decode cX10_readFrom 98 = .ok (.bipush 48, 2) := by decide +kernel
theorem dX10_readFrom_100 : decode cX10_readFrom 100 = .ok (.isub, 1) := by decide +kernel
theorem dX10_readFrom_101 : decode cX10_readFrom 101 = .ok (.invokestatic 40, 3) := by decide +kernel
theorem dX10_readFrom_104 : decode cX10_readFrom 104 = .ok (.aastore, 1) := by decide +kernel
theorem dX10_readFrom_105 : decode cX10_readFrom 105 = .ok (.aload_n 0, 1) := by decide +kernel
theorem dX10_readFrom_106 : decode cX10_readFrom 106 = .ok (.dup, 1) := by decide +kernel
theorem dX10_readFrom_107 : decode cX10_readFrom 107 = .ok (.getfield 21, 3) := by decide +kernel
theorem dX10_readFrom_110 : decode cX10_readFrom 110 = .ok (.iconst 1, 1) := by decide +kernel
theorem dX10_readFrom_111 : decode cX10_readFrom 111 = .ok (.iadd, 1) := by decide +kernel
theorem dX10_readFrom_112 : decode cX10_readFrom 112 = .ok (.putfield 21, 3) := by decide +kernel
theorem dX10_readFrom_115 : decode cX10_readFrom 115 = .ok (.iinc 2 4, 3) := by decide +kernel
theorem dX10_readFrom_118 : decode cX10_readFrom 118 = .ok (.goto (-111), 3) := by decide +kernel
theorem dX10_readFrom_121 : decode cX10_readFrom 121 = .ok (.return_, 1) := by decide +kernel
theorem dX10_kindOfLetter_0 : decode cX10_kindOfLetter 0 = .ok (.iload_n 0, 1) := by decide +kernel
theorem dX10_kindOfLetter_1 : decode cX10_kindOfLetter 1 = .ok (.lookupswitch 51 #[(98, 43), (103, 47), (106, 45), (112, 49)], 43) := by decide +kernel
theorem dX10_kindOfLetter_44 : decode cX10_kindOfLetter 44 = .ok (.iconst 1, 1) := by decide +kernel
theorem dX10_kindOfLetter_45 : decode cX10_kindOfLetter 45 = .ok (.ireturn, 1) := by decide +kernel
theorem dX10_kindOfLetter_46 : decode cX10_kindOfLetter 46 = .ok (.iconst 2, 1) := by decide +kernel
theorem dX10_kindOfLetter_47 : decode cX10_kindOfLetter 47 = .ok (.ireturn, 1) := by decide +kernel
theorem dX10_kindOfLetter_48 : decode cX10_kindOfLetter 48 = .ok (.iconst 3, 1) := by decide +kernel
theorem dX10_kindOfLetter_49 : decode cX10_kindOfLetter 49 = .ok (.ireturn, 1) := by decide +kernel
theorem dX10_kindOfLetter_50 : decode cX10_kindOfLetter 50 = .ok (.iconst 4, 1) := by decide +kernel
theorem dX10_kindOfLetter_51 : decode cX10_kindOfLetter 51 = .ok (.ireturn, 1) := by decide +kernel
theorem dX10_kindOfLetter_52 : decode cX10_kindOfLetter 52 = .ok (.iconst 0, 1) := by decide +kernel
theorem dX10_kindOfLetter_53 : decode cX10_kindOfLetter 53 = .ok (.ireturn, 1) := by decide +kernel
theorem dX10_feudOf_0 : decode cX10_feudOf 0 = .ok (.iload_n 0, 1) := by decide +kernel
theorem dX10_feudOf_1 : decode cX10_feudOf 1 = .ok (.tableswitch 67 1 4 #[31, 40, 49, 58], 31) := by decide +kernel
theorem dX10_feudOf_32 : decode cX10_feudOf 32 = .ok (.new 44, 3) := by decide +kernel
theorem dX10_feudOf_35 : decode cX10_feudOf 35 = .ok (.dup, 1) := by decide +kernel
theorem dX10_feudOf_36 : decode cX10_feudOf 36 = .ok (.iload_n 1, 1) := by decide +kernel
theorem dX10_feudOf_37 : decode cX10_feudOf 37 = .ok (.invokespecial 46, 3) := by decide +kernel
theorem dX10_feudOf_40 : decode cX10_feudOf 40 = .ok (.areturn, 1) := by decide +kernel
theorem dX10_feudOf_41 : decode cX10_feudOf 41 = .ok (.new 47, 3) := by decide +kernel
theorem dX10_feudOf_44 : decode cX10_feudOf 44 = .ok (.dup, 1) := by decide +kernel
theorem dX10_feudOf_45 : decode cX10_feudOf 45 = .ok (.iload_n 1, 1) := by decide +kernel
theorem dX10_feudOf_46 : decode cX10_feudOf 46 = .ok (.invokespecial 49, 3) := by decide +kernel
theorem dX10_feudOf_49 : decode cX10_feudOf 49 = .ok (.areturn, 1) := by decide +kernel
theorem dX10_feudOf_50 : decode cX10_feudOf 50 = .ok (.new 50, 3) := by decide +kernel
theorem dX10_feudOf_53 : decode cX10_feudOf 53 = .ok (.dup, 1) := by decide +kernel
theorem dX10_feudOf_54 : decode cX10_feudOf 54 = .ok (.iload_n 1, 1) := by decide +kernel
theorem dX10_feudOf_55 : decode cX10_feudOf 55 = .ok (.invokespecial 52, 3) := by decide +kernel
theorem dX10_feudOf_58 : decode cX10_feudOf 58 = .ok (.areturn, 1) := by decide +kernel
theorem dX10_feudOf_59 : decode cX10_feudOf 59 = .ok (.new 53, 3) := by decide +kernel
theorem dX10_feudOf_62 : decode cX10_feudOf 62 = .ok (.dup, 1) := by decide +kernel
theorem dX10_feudOf_63 : decode cX10_feudOf 63 = .ok (.iload_n 1, 1) := by decide +kernel
theorem dX10_feudOf_64 : decode cX10_feudOf 64 = .ok (.invokespecial 55, 3) := by decide +kernel
theorem dX10_feudOf_67 : decode cX10_feudOf 67 = .ok (.areturn, 1) := by decide +kernel
theorem dX10_feudOf_68 : decode cX10_feudOf 68 = .ok (.new 9, 3) := by decide +kernel
theorem dX10_feudOf_71 : decode cX10_feudOf 71 = .ok (.dup, 1) := by decide +kernel
theorem dX10_feudOf_72 : decode cX10_feudOf 72 = .ok (.iload_n 1, 1) := by decide +kernel
theorem dX10_feudOf_73 : decode cX10_feudOf 73 = .ok (.invokespecial 25, 3) := by decide +kernel
theorem dX10_feudOf_76 : decode cX10_feudOf 76 = .ok (.areturn, 1) := by decide +kernel
theorem dX11_init_0 : decode cX11_init 0 = .ok (.aload_n 0, 1) := by decide +kernel
theorem dX11_init_1 : decode cX11_init 1 = .ok (.invokespecial 1, 3) := by decide +kernel
theorem dX11_init_4 : decode cX11_init 4 = .ok (.aload_n 0, 1) := by decide +kernel
theorem dX11_init_5 : decode cX11_init 5 = .ok (.new 7, 3) := by decide +kernel
theorem dX11_init_8 : decode cX11_init 8 = .ok (.dup, 1) := by decide +kernel
theorem dX11_init_9 : decode cX11_init 9 = .ok (.invokespecial 9, 3) := by decide +kernel
theorem dX11_init_12 : decode cX11_init 12 = .ok (.putfield 10, 3) := by decide +kernel
theorem dX11_init_15 : decode cX11_init 15 = .ok (.aload_n 0, 1) := by decide +kernel
theorem dX11_init_16 : decode cX11_init 16 = .ok (.new 16, 3) := by decide +kernel
theorem dX11_init_19 : decode cX11_init 19 = .ok (.dup, 1) := by decide +kernel
theorem dX11_init_20 : decode cX11_init 20 = .ok (.invokespecial 18, 3) := by decide +kernel
theorem dX11_init_23 : decode cX11_init 23 = .ok (.putfield 19, 3) := by decide +kernel
theorem dX11_init_26 : decode cX11_init 26 = .ok (.aload_n 0, 1) := by decide +kernel
theorem dX11_init_27 : decode cX11_init 27 = .ok (.new 23, 3) := by decide +kernel
theorem dX11_init_30 : decode cX11_init 30 = .ok (.dup, 1) := by decide +kernel
theorem dX11_init_31 : decode cX11_init 31 = .ok (.aload_n 0, 1) := by decide +kernel
theorem dX11_init_32 : decode cX11_init 32 = .ok (.getfield 19, 3) := by decide +kernel
theorem dX11_init_35 : decode cX11_init 35 = .ok (.invokespecial 25, 3) := by decide +kernel
theorem dX11_init_38 : decode cX11_init 38 = .ok (.putfield 28, 3) := by decide +kernel
theorem dX11_init_41 : decode cX11_init 41 = .ok (.aload_n 0, 1) := by decide +kernel
theorem dX11_init_42 : decode cX11_init 42 = .ok (.new 23, 3) := by decide +kernel
theorem dX11_init_45 : decode cX11_init 45 = .ok (.dup, 1) := by decide +kernel
theorem dX11_init_46 : decode cX11_init 46 = .ok (.aload_n 0, 1) := by decide +kernel
theorem dX11_init_47 : decode cX11_init 47 = .ok (.getfield 19, 3) := by decide +kernel
theorem dX11_init_50 : decode cX11_init 50 = .ok (.invokespecial 25, 3) := by decide +kernel
theorem dX11_init_53 : decode cX11_init 53 = .ok (.putfield 32, 3) := by decide +kernel
theorem dX11_init_56 : decode cX11_init 56 = .ok (.aload_n 0, 1) := by decide +kernel
theorem dX11_init_57 : decode cX11_init 57 = .ok (.new 23, 3) := by decide +kernel
theorem dX11_init_60 : decode cX11_init 60 = .ok (.dup, 1) := by decide +kernel
theorem dX11_init_61 : decode cX11_init 61 = .ok (.aload_n 0, 1) := by decide +kernel
theorem dX11_init_62 : decode cX11_init 62 = .ok (.getfield 19, 3) := by decide +kernel
theorem dX11_init_65 : decode cX11_init 65 = .ok (.invokespecial 25, 3) := by decide +kernel
theorem dX11_init_68 : decode cX11_init 68 = .ok (.putfield 35, 3) := by decide +kernel
theorem dX11_init_71 : decode cX11_init 71 = .ok (.aload_n 0, 1) := by decide +kernel
theorem dX11_init_72 : decode cX11_init 72 = .ok (.new 38, 3) := by decide +kernel
theorem dX11_init_75 : decode cX11_init 75 = .ok (.dup, 1) := by decide +kernel
theorem dX11_init_76 : decode cX11_init 76 = .ok (.invokespecial 40, 3) := by decide +kernel
theorem dX11_init_79 : decode cX11_init 79 = .ok (.putfield 41, 3) := by decide +kernel
theorem dX11_init_82 : decode cX11_init 82 = .ok (.aload_n 0, 1) := by decide +kernel
theorem dX11_init_83 : decode cX11_init 83 = .ok (.new 45, 3) := by decide +kernel
theorem dX11_init_86 : decode cX11_init 86 = .ok (.dup, 1) := by decide +kernel
theorem dX11_init_87 : decode cX11_init 87 = .ok (.invokespecial 47, 3) := by decide +kernel
theorem dX11_init_90 : decode cX11_init 90 = .ok (.putfield 48, 3) := by decide +kernel
theorem dX11_init_93 : decode cX11_init 93 = .ok (.aload_n 0, 1) := by decide +kernel
theorem dX11_init_94 : decode cX11_init 94 = .ok (.new 52, 3) := by decide +kernel
theorem dX11_init_97 : decode cX11_init 97 = .ok (.dup, 1) := by decide +kernel
theorem dX11_init_98 : decode cX11_init 98 = .ok (.invokespecial 54, 3) := by decide +kernel
theorem dX11_init_101 : decode cX11_init 101 = .ok (.putfield 55, 3) := by decide +kernel
theorem dX11_init_104 : decode cX11_init 104 = .ok (.aload_n 0, 1) := by decide +kernel
theorem dX11_init_105 : decode cX11_init 105 = .ok (.iconst 0, 1) := by decide +kernel
theorem dX11_init_106 : decode cX11_init 106 = .ok (.putfield 59, 3) := by decide +kernel
theorem dX11_init_109 : decode cX11_init 109 = .ok (.aload_n 0, 1) := by decide +kernel
theorem dX11_init_110 : decode cX11_init 110 = .ok (.iconst 0, 1) := by decide +kernel
theorem dX11_init_111 : decode cX11_init 111 = .ok (.putfield 63, 3) := by decide +kernel
theorem dX11_init_114 : decode cX11_init 114 = .ok (.return_, 1) := by decide +kernel
theorem dX11_letter_0 : decode cX11_letter 0 = .ok (.iload_n 1, 1) := by decide +kernel
theorem dX11_letter_1 : decode cX11_letter 1 = .ok (.iconst 1, 1) := by decide +kernel
theorem dX11_letter_2 : decode cX11_letter 2 = .ok (.if_icmp .lt 9, 3) := by decide +kernel
theorem dX11_letter_5 : decode cX11_letter 5 = .ok (.iload_n 1, 1) := by decide +kernel
theorem dX11_letter_6 : decode cX11_letter 6 = .ok (.bipush 126, 2) := by decide +kernel
theorem dX11_letter_8 : decode cX11_letter 8 = .ok (.if_icmp .le 6, 3) := by decide +kernel
theorem dX11_letter_11 : decode cX11_letter 11 = .ok (.bipush (-102), 2) := by decide +kernel
theorem dX11_letter_13 : decode cX11_letter 13 = .ok (.ireturn, 1) := by decide +kernel
theorem dX11_letter_14 : decode cX11_letter 14 = .ok (.aload_n 0, 1) := by decide +kernel
theorem dX11_letter_15 : decode cX11_letter 15 = .ok (.getfield 10, 3) := by decide +kernel
theorem dX11_letter_18 : decode cX11_letter 18 = .ok (.iload_n 1, 1) := by decide +kernel
theorem dX11_letter_19 : decode cX11_letter 19 = .ok (.invokevirtual 67, 3) := by decide +kernel
theorem dX11_letter_22 : decode cX11_letter 22 = .ok (.ifCond .eq 13, 3) := by decide +kernel
theorem dX11_letter_25 : decode cX11_letter 25 = .ok (.aload_n 0, 1) := by decide +kernel
theorem dX11_letter_26 : decode cX11_letter 26 = .ok (.getfield 10, 3) := by decide +kernel
theorem dX11_letter_29 : decode cX11_letter 29 = .ok (.getfield 71, 3) := by decide +kernel
theorem dX11_letter_32 : decode cX11_letter 32 = .ok (.goto 5, 3) := by decide +kernel
theorem dX11_letter_35 : decode cX11_letter 35 = .ok (.bipush (-104), 2) := by decide +kernel
theorem dX11_letter_37 : decode cX11_letter 37 = .ok (.ireturn, 1) := by decide +kernel
theorem dX11_blank_0 : decode cX11_blank 0 = .ok (.aload_n 0, 1) := by decide +kernel
theorem dX11_blank_1 : decode cX11_blank 1 = .ok (.getfield 10, 3) := by decide +kernel
theorem dX11_blank_4 : decode cX11_blank 4 = .ok (.invokevirtual 74, 3) := by decide +kernel
theorem dX11_blank_7 : decode cX11_blank 7 = .ok (.ireturn, 1) := by decide +kernel
theorem dX11_fault_0 : decode cX11_fault 0 = .ok (.aload_n 0, 1) := by decide +kernel
theorem dX11_fault_1 : decode cX11_fault 1 = .ok (.getfield 10, 3) := by decide +kernel
theorem dX11_fault_4 : decode cX11_fault 4 = .ok (.invokevirtual 78, 3) := by decide +kernel
theorem dX11_fault_7 : decode cX11_fault 7 = .ok (.aload_n 0, 1) := by decide +kernel
theorem dX11_fault_8 : decode cX11_fault 8 = .ok (.getfield 10, 3) := by decide +kernel
theorem dX11_fault_11 : decode cX11_fault 11 = .ok (.getfield 81, 3) := by decide +kernel
theorem dX11_fault_14 : decode cX11_fault 14 = .ok (.ireturn, 1) := by decide +kernel
theorem dX11_list_0 : decode cX11_list 0 = .ok (.aload_n 0, 1) := by decide +kernel
theorem dX11_list_1 : decode cX11_list 1 = .ok (.getfield 10, 3) := by decide +kernel
theorem dX11_list_4 : decode cX11_list 4 = .ok (.invokevirtual 84, 3) := by decide +kernel
theorem dX11_list_7 : decode cX11_list 7 = .ok (.ifCond .ne 6, 3) := by decide +kernel
theorem dX11_list_10 : decode cX11_list 10 = .ok (.bipush (-103), 2) := by decide +kernel
theorem dX11_list_12 : decode cX11_list 12 = .ok (.ireturn, 1) := by decide +kernel
theorem dX11_list_13 : decode cX11_list 13 = .ok (.aload_n 0, 1) := by decide +kernel
theorem dX11_list_14 : decode cX11_list 14 = .ok (.getfield 19, 3) := by decide +kernel
theorem dX11_list_17 : decode cX11_list 17 = .ok (.aload_n 0, 1) := by decide +kernel
theorem dX11_list_18 : decode cX11_list 18 = .ok (.getfield 10, 3) := by decide +kernel
theorem dX11_list_21 : decode cX11_list 21 = .ok (.invokevirtual 88, 3) := by decide +kernel
theorem dX11_list_24 : decode cX11_list 24 = .ok (.aload_n 0, 1) := by decide +kernel
theorem dX11_list_25 : decode cX11_list 25 = .ok (.getfield 10, 3) := by decide +kernel
theorem dX11_list_28 : decode cX11_list 28 = .ok (.invokevirtual 74, 3) := by decide +kernel
theorem dX11_list_31 : decode cX11_list 31 = .ok (.pop, 1) := by decide +kernel
theorem dX11_list_32 : decode cX11_list 32 = .ok (.aload_n 0, 1) := by decide +kernel
theorem dX11_list_33 : decode cX11_list 33 = .ok (.getfield 28, 3) := by decide +kernel
theorem dX11_list_36 : decode cX11_list 36 = .ok (.invokevirtual 92, 3) := by decide +kernel
theorem dX11_list_39 : decode cX11_list 39 = .ok (.aload_n 0, 1) := by decide +kernel
theorem dX11_list_40 : decode cX11_list 40 = .ok (.iconst 0, 1) := by decide +kernel
theorem dX11_list_41 : decode cX11_list 41 = .ok (.putfield 59, 3) := by decide +kernel
theorem dX11_list_44 : decode cX11_list 44 = .ok (.aload_n 0, 1) := by decide +kernel
theorem dX11_list_45 : decode cX11_list 45 = .ok (.dup, 1) := by decide +kernel
theorem dX11_list_46 : decode cX11_list 46 = .ok (.getfield 63, 3) := by decide +kernel
theorem dX11_list_49 : decode cX11_list 49 = .ok (.iconst 1, 1) := by decide +kernel
theorem dX11_list_50 : decode cX11_list 50 = .ok (.iadd, 1) := by decide +kernel
theorem dX11_list_51 : decode cX11_list 51 = .ok (.putfield 63, 3) := by decide +kernel
theorem dX11_list_54 : decode cX11_list 54 = .ok (.aload_n 0, 1) := by decide +kernel
theorem dX11_list_55 : decode cX11_list 55 = .ok (.getfield 19, 3) := by decide +kernel
theorem dX11_list_58 : decode cX11_list 58 = .ok (.getfield 95, 3) := by decide +kernel
theorem dX11_list_61 : decode cX11_list 61 = .ok (.ireturn, 1) := by decide +kernel
theorem dX11_about_0 : decode cX11_about 0 = .ok (.aload_n 0, 1) := by decide +kernel
theorem dX11_about_1 : decode cX11_about 1 = .ok (.iload_n 1, 1) := by decide +kernel
theorem dX11_about_2 : decode cX11_about 2 = .ok (.invokevirtual 98, 3) := by decide +kernel
theorem dX11_about_5 : decode cX11_about 5 = .ok (.ifCond .ne 6, 3) := by decide +kernel
theorem dX11_about_8 : decode cX11_about 8 = .ok (.bipush (-101), 2) := by decide +kernel
theorem dX11_about_10 : decode cX11_about 10 = .ok (.ireturn, 1) := by decide +kernel
theorem dX11_about_11 : decode cX11_about 11 = .ok (.iload_n 2, 1) := by decide +kernel
theorem dX11_about_12 : decode cX11_about 12 = .ok (.tableswitch 156 0 8 #[52, 65, 78, 96, 106, 116, 126, 136, 146], 52) := by decide +kernel
theorem dX11_about_64 : decode cX11_about 64 = .ok (.aload_n 0, 1) := by decide +kernel
theorem dX11_about_65 : decode cX11_about 65 = .ok (.getfield 19, 3) := by decide +kernel
theorem dX11_about_68 : decode cX11_about 68 = .ok (.getfield 101, 3) := by decide +kernel
theorem dX11_about_71 : decode cX11_about 71 = .ok (.iload_n 1, 1) := by decide +kernel
theorem dX11_about_72 : decode cX11_about 72 = .ok (.aaload, 1) := by decide +kernel
theorem dX11_about_73 : decode cX11_about 73 = .ok (.invokevirtual 105, 3) := by decide +kernel
theorem dX11_about_76 : decode cX11_about 76 = .ok (.ireturn, 1) := by decide +kernel
theorem dX11_about_77 : decode cX11_about 77 = .ok (.aload_n 0, 1) := by decide +kernel
theorem dX11_about_78 : decode cX11_about 78 = .ok (.getfield 19, 3) := by decide +kernel
theorem dX11_about_81 : decode cX11_about 81 = .ok (.getfield 101, 3) := by decide +kernel
theorem dX11_about_84 : decode cX11_about 84 = .ok (.iload_n 1, 1) := by decide +kernel
theorem dX11_about_85 : decode cX11_about 85 = .ok (.aaload, 1) := by decide +kernel
theorem dX11_about_86 : decode cX11_about 86 = .ok (.getfield 110, 3) := by decide +kernel
theorem dX11_about_89 : decode cX11_about 89 = .ok (.ireturn, 1) := by decide +kernel
theorem dX11_about_90 : decode cX11_about 90 = .ok (.aload_n 0, 1) := by decide +kernel
theorem dX11_about_91 : decode cX11_about 91 = .ok (.getfield 28, 3) := by decide +kernel
theorem dX11_about_94 : decode cX11_about 94 = .ok (.getfield 113, 3) := by decide +kernel
theorem dX11_about_97 : decode cX11_about 97 = .ok (.iload_n 1, 1) := by decide +kernel
theorem dX11_about_98 : decode cX11_about 98 = .ok (.baload, 1) := by decide +kernel
theorem dX11_about_99 : decode cX11_about 99 = .ok (.ifCond .eq 7, 3) := by decide +kernel
theorem dX11_about_102 : decode cX11_about 102 = .ok (.iconst 1, 1) := by decide +kernel
theorem dX11_about_103 : decode cX11_about 103 = .ok (.goto 4, 3) := by decide +kernel
theorem dX11_about_106 : decode cX11_about 106 = .ok (.iconst 0, 1) := by decide +kernel
theorem dX11_about_107 : decode cX11_about 107 = .ok (.ireturn, 1) := by decide +kernel
theorem dX11_about_108 : decode cX11_about 108 = .ok (.aload_n 0, 1) := by decide +kernel
theorem dX11_about_109 : decode cX11_about 109 = .ok (.getfield 28, 3) := by decide +kernel
theorem dX11_about_112 : decode cX11_about 112 = .ok (.iload_n 1, 1) := by decide +kernel
theorem dX11_about_113 : decode cX11_about 113 = .ok (.iconst 0, 1) := by decide +kernel
theorem dX11_about_114 : decode cX11_about 114 = .ok (.invokevirtual 117, 3) := by decide +kernel
theorem dX11_about_117 : decode cX11_about 117 = .ok (.ireturn, 1) := by decide +kernel
theorem dX11_about_118 : decode cX11_about 118 = .ok (.aload_n 0, 1) := by decide +kernel
theorem dX11_about_119 : decode cX11_about 119 = .ok (.getfield 28, 3) := by decide +kernel
theorem dX11_about_122 : decode cX11_about 122 = .ok (.iload_n 1, 1) := by decide +kernel
theorem dX11_about_123 : decode cX11_about 123 = .ok (.iconst 1, 1) := by decide +kernel
theorem dX11_about_124 : decode cX11_about 124 = .ok (.invokevirtual 117, 3) := by decide +kernel
theorem dX11_about_127 : decode cX11_about 127 = .ok (.ireturn, 1) := by decide +kernel
theorem dX11_about_128 : decode cX11_about 128 = .ok (.aload_n 0, 1) := by decide +kernel
theorem dX11_about_129 : decode cX11_about 129 = .ok (.getfield 28, 3) := by decide +kernel
theorem dX11_about_132 : decode cX11_about 132 = .ok (.iload_n 1, 1) := by decide +kernel
theorem dX11_about_133 : decode cX11_about 133 = .ok (.iconst 0, 1) := by decide +kernel
theorem dX11_about_134 : decode cX11_about 134 = .ok (.invokevirtual 121, 3) := by decide +kernel
theorem dX11_about_137 : decode cX11_about 137 = .ok (.ireturn, 1) := by decide +kernel
theorem dX11_about_138 : decode cX11_about 138 = .ok (.aload_n 0, 1) := by decide +kernel
theorem dX11_about_139 : decode cX11_about 139 = .ok (.getfield 28, 3) := by decide +kernel
theorem dX11_about_142 : decode cX11_about 142 = .ok (.iload_n 1, 1) := by decide +kernel
theorem dX11_about_143 : decode cX11_about 143 = .ok (.iconst 1, 1) := by decide +kernel
theorem dX11_about_144 : decode cX11_about 144 = .ok (.invokevirtual 121, 3) := by decide +kernel
theorem dX11_about_147 : decode cX11_about 147 = .ok (.ireturn, 1) := by decide +kernel
theorem dX11_about_148 : decode cX11_about 148 = .ok (.aload_n 0, 1) := by decide +kernel
theorem dX11_about_149 : decode cX11_about 149 = .ok (.getfield 28, 3) := by decide +kernel
theorem dX11_about_152 : decode cX11_about 152 = .ok (.iload_n 1, 1) := by decide +kernel
theorem dX11_about_153 : decode cX11_about 153 = .ok (.iconst 0, 1) := by decide +kernel
theorem dX11_about_154 : decode cX11_about 154 = .ok (.invokevirtual 124, 3) := by decide +kernel
theorem dX11_about_157 : decode cX11_about 157 = .ok (.ireturn, 1) := by decide +kernel
theorem dX11_about_158 : decode cX11_about 158 = .ok (.aload_n 0, 1) := by decide +kernel
theorem dX11_about_159 : decode cX11_about 159 = .ok (.getfield 28, 3) := by decide +kernel
theorem dX11_about_162 : decode cX11_about 162 = .ok (.iload_n 1, 1) := by decide +kernel
theorem dX11_about_163 : decode cX11_about 163 = .ok (.iconst 1, 1) := by decide +kernel
theorem dX11_about_164 : decode cX11_about 164 = .ok (.invokevirtual 124, 3) := by decide +kernel
theorem dX11_about_167 : decode cX11_about 167 = .ok (.ireturn, 1) := by decide +kernel
theorem dX11_about_168 : decode cX11_about 168 = .ok (.bipush (-102), 2) := by decide +kernel
theorem dX11_about_170 : decode cX11_about 170 = .ok (.ireturn, 1) := by decide +kernel
theorem dX11_as_0 : decode cX11_as 0 = .ok (.aload_n 0, 1) := by decide +kernel
theorem dX11_as_1 : decode cX11_as 1 = .ok (.iload_n 1, 1) := by decide +kernel
theorem dX11_as_2 : decode cX11_as 2 = .ok (.invokevirtual 98, 3) := by decide +kernel
theorem dX11_as_5 : decode cX11_as 5 = .ok (.ifCond .ne 6, 3) := by decide +kernel
theorem dX11_as_8 : decode cX11_as 8 = .ok (.bipush (-101), 2) := by decide +kernel
theorem dX11_as_10 : decode cX11_as 10 = .ok (.ireturn, 1) := by decide +kernel
theorem dX11_as_11 : decode cX11_as 11 = .ok (.iload_n 2, 1) := by decide +kernel
theorem dX11_as_12 : decode cX11_as 12 = .ok (.ifCond .lt 8, 3) := by decide +kernel
theorem dX11_as_15 : decode cX11_as 15 = .ok (.iload_n 2, 1) := by decide +kernel
theorem dX11_as_16 : decode cX11_as 16 = .ok (.iconst 4, 1) := by decide +kernel
theorem dX11_as_17 : decode cX11_as 17 = .ok (.if_icmp .le 6, 3) := by decide +kernel
theorem dX11_as_20 : decode cX11_as 20 = .ok (.bipush (-102), 2) := by decide +kernel
theorem dX11_as_22 : decode cX11_as 22 = .ok (.ireturn, 1) := by decide +kernel
theorem dX11_as_23 : decode cX11_as 23 = .ok (.aload_n 0, 1) := by decide +kernel
theorem dX11_as_24 : decode cX11_as 24 = .ok (.getfield 19, 3) := by decide +kernel
theorem dX11_as_27 : decode cX11_as 27 = .ok (.getfield 101, 3) := by decide +kernel
theorem dX11_as_30 : decode cX11_as 30 = .ok (.iload_n 1, 1) := by decide +kernel
theorem dX11_as_31 : decode cX11_as 31 = .ok (.aaload, 1) := by decide +kernel
theorem dX11_as_32 : decode cX11_as 32 = .ok (.iload_n 2, 1) := by decide +kernel
theorem dX11_as_33 : decode cX11_as 33 = .ok (.invokestatic 127, 3) := by decide +kernel
theorem dX11_as_36 : decode cX11_as 36 = .ok (.ifCond .eq 7, 3) := by decide +kernel
theorem dX11_as_39 : decode cX11_as 39 = .ok (.iload_n 1, 1) := by decide +kernel
theorem dX11_as_40 : decode cX11_as 40 = .ok (.goto 4, 3) := by decide +kernel
theorem dX11_as_43 : decode cX11_as 43 = .ok (.iconst (-1), 1) := by decide +kernel
theorem dX11_as_44 : decode cX11_as 44 = .ok (.ireturn, 1) := by decide +kernel
theorem dX11_person_0 : decode cX11_person 0 = .ok (.iload_n 1, 1) := by decide +kernel
theorem dX11_person_1 : decode cX11_person 1 = .ok (.invokestatic 131, 3) := by decide +kernel
theorem dX11_person_4 : decode cX11_person 4 = .ok (.ifCond .ne 6, 3) := by decide +kernel
theorem dX11_person_7 : decode cX11_person 7 = .ok (.bipush (-101), 2) := by decide +kernel
theorem dX11_person_9 : decode cX11_person 9 = .ok (.ireturn, 1) := by decide +kernel
theorem dX11_person_10 : decode cX11_person 10 = .ok (.iload_n 2, 1) := by decide +kernel
theorem dX11_person_11 : decode cX11_person 11 = .ok (.tableswitch 125 0 5 #[37, 47, 57, 75, 87, 106], 37) := by decide +kernel
theorem dX11_person_48 : decode cX11_person 48 = .ok (.aload_n 0, 1) := by decide +kernel
theorem dX11_person_49 : decode cX11_person 49 = .ok (.getfield 28, 3) := by decide +kernel
theorem dX11_person_52 : decode cX11_person 52 = .ok (.getfield 134, 3) := by decide +kernel
theorem dX11_person_55 : decode cX11_person 55 = .ok (.iload_n 1, 1) := by decide +kernel
theorem dX11_person_56 : decode cX11_person 56 = .ok (.iaload, 1) := by decide +kernel
theorem dX11_person_57 : decode cX11_person 57 = .ok (.ireturn, 1) := by decide +kernel
theorem dX11_person_58 : decode cX11_person 58 = .ok (.aload_n 0, 1) := by decide +kernel
theorem dX11_person_59 : decode cX11_person 59 = .ok (.getfield 28, 3) := by decide +kernel
theorem dX11_person_62 : decode cX11_person 62 = .ok (.getfield 138, 3) := by decide +kernel
theorem dX11_person_65 : decode cX11_person 65 = .ok (.iload_n 1, 1) := by decide +kernel
theorem dX11_person_66 : decode cX11_person 66 = .ok (.iaload, 1) := by decide +kernel
theorem dX11_person_67 : decode cX11_person 67 = .ok (.ireturn, 1) := by decide +kernel
theorem dX11_person_68 : decode cX11_person 68 = .ok (.aload_n 0, 1) := by decide +kernel
theorem dX11_person_69 : decode cX11_person 69 = .ok (.getfield 28, 3) := by decide +kernel
theorem dX11_person_72 : decode cX11_person 72 = .ok (.getfield 141, 3) := by decide +kernel
theorem dX11_person_75 : decode cX11_person 75 = .ok (.iload_n 1, 1) := by decide +kernel
theorem dX11_person_76 : decode cX11_person 76 = .ok (.baload, 1) := by decide +kernel
theorem dX11_person_77 : decode cX11_person 77 = .ok (.ifCond .eq 7, 3) := by decide +kernel
theorem dX11_person_80 : decode cX11_person 80 = .ok (.iconst 1, 1) := by decide +kernel
theorem dX11_person_81 : decode cX11_person 81 = .ok (.goto 4, 3) := by decide +kernel
theorem dX11_person_84 : decode cX11_person 84 = .ok (.iconst 0, 1) := by decide +kernel
theorem dX11_person_85 : decode cX11_person 85 = .ok (.ireturn, 1) := by decide +kernel
theorem dX11_person_86 : decode cX11_person 86 = .ok (.aload_n 0, 1) := by decide +kernel
theorem dX11_person_87 : decode cX11_person 87 = .ok (.getfield 28, 3) := by decide +kernel
theorem dX11_person_90 : decode cX11_person 90 = .ok (.iload_n 1, 1) := by decide +kernel
theorem dX11_person_91 : decode cX11_person 91 = .ok (.invokevirtual 144, 3) := by decide +kernel
theorem dX11_person_94 : decode cX11_person 94 = .ok (.invokestatic 148, 3) := by decide +kernel
theorem dX11_person_97 : decode cX11_person 97 = .ok (.ireturn, 1) := by decide +kernel
theorem dX11_person_98 : decode cX11_person 98 = .ok (.aload_n 0, 1) := by decide +kernel
theorem dX11_person_99 : decode cX11_person 99 = .ok (.getfield 28, 3) := by decide +kernel
theorem dX11_person_102 : decode cX11_person 102 = .ok (.getfield 153, 3) := by decide +kernel
theorem dX11_person_105 : decode cX11_person 105 = .ok (.aload_n 0, 1) := by decide +kernel
theorem dX11_person_106 : decode cX11_person 106 = .ok (.getfield 28, 3) := by decide +kernel
theorem dX11_person_109 : decode cX11_person 109 = .ok (.getfield 156, 3) := by decide +kernel
theorem dX11_person_112 : decode cX11_person 112 = .ok (.iload_n 1, 1) := by decide +kernel
theorem dX11_person_113 : decode cX11_person 113 = .ok (.invokestatic 159, 3) := by decide +kernel
theorem dX11_person_116 : decode cX11_person 116 = .ok (.ireturn, 1) := by decide +kernel
theorem dX11_person_117 : decode cX11_person 117 = .ok (.aload_n 0, 1) := by decide +kernel
theorem dX11_person_118 : decode cX11_person 118 = .ok (.getfield 28, 3) := by decide +kernel
theorem dX11_person_121 : decode cX11_person 121 = .ok (.getfield 163, 3) := by decide +kernel
theorem dX11_person_124 : decode cX11_person 124 = .ok (.aload_n 0, 1) := by decide +kernel
theorem dX11_person_125 : decode cX11_person 125 = .ok (.getfield 28, 3) := by decide +kernel
theorem dX11_person_128 : decode cX11_person 128 = .ok (.getfield 156, 3) := by decide +kernel
theorem dX11_person_131 : decode cX11_person 131 = .ok (.iload_n 1, 1) := by decide +kernel
theorem dX11_person_132 : decode cX11_person 132 = .ok (.invokestatic 159, 3) := by decide +kernel
theorem dX11_person_135 : decode cX11_person 135 = .ok (.ireturn, 1) := by decide +kernel
theorem dX11_person_136 : decode cX11_person 136 = .ok (.bipush (-102), 2) := by decide +kernel
theorem dX11_person_138 : decode cX11_person 138 = .ok (.ireturn, 1) := by decide +kernel
theorem dX11_heir_0 : decode cX11_heir 0 = .ok (.iload_n 1, 1) := by decide +kernel
theorem dX11_heir_1 : decode cX11_heir 1 = .ok (.invokestatic 131, 3) := by decide +kernel
theorem dX11_heir_4 : decode cX11_heir 4 = .ok (.ifCond .eq 20, 3) := by decide +kernel
theorem dX11_heir_7 : decode cX11_heir 7 = .ok (.iload_n 2, 1) := by decide +kernel
theorem dX11_heir_8 : decode cX11_heir 8 = .ok (.iconst (-1), 1) := by decide +kernel
theorem dX11_heir_9 : decode cX11_heir 9 = .ok (.if_icmp .eq 10, 3) := by decide +kernel
theorem dX11_heir_12 : decode cX11_heir 12 = .ok (.iload_n 2, 1) := by decide +kernel
theorem dX11_heir_13 : decode cX11_heir 13 = .ok (.invokestatic 131, 3) := by decide +kernel
theorem dX11_heir_16 : decode cX11_heir 16 = .ok (.ifCond .eq 8, 3) := by decide +kernel
theorem dX11_heir_19 : decode cX11_heir 19 = .ok (.iload_n 1, 1) := by decide +kernel
theorem dX11_heir_20 : decode cX11_heir 20 = .ok (.iload_n 2, 1) := by decide +kernel
theorem dX11_heir_21 : decode cX11_heir 21 = .ok (.if_icmp .ne 6, 3) := by decide +kernel
theorem dX11_heir_24 : decode cX11_heir 24 = .ok (.bipush (-101), 2) := by decide +kernel
theorem dX11_heir_26 : decode cX11_heir 26 = .ok (.ireturn, 1) := by decide +kernel
theorem dX11_heir_27 : decode cX11_heir 27 = .ok (.aload_n 0, 1) := by decide +kernel
theorem dX11_heir_28 : decode cX11_heir 28 = .ok (.invokevirtual 166, 3) := by decide +kernel
theorem dX11_heir_31 : decode cX11_heir 31 = .ok (.ifCond .eq 15, 3) := by decide +kernel
theorem dX11_heir_34 : decode cX11_heir 34 = .ok (.aload_n 0, 1) := by decide +kernel
theorem dX11_heir_35 : decode cX11_heir 35 = .ok (.getfield 28, 3) := by decide +kernel
theorem dX11_heir_38 : decode cX11_heir 38 = .ok (.getfield 141, 3) := by decide +kernel
theorem dX11_heir_41 : decode cX11_heir 41 = .ok (.iload_n 1, 1) := by decide +kernel
theorem dX11_heir_42 : decode cX11_heir 42 = .ok (.baload, 1) := by decide +kernel
theorem dX11_heir_43 : decode cX11_heir 43 = .ok (.ifCond .ne 6, 3) := by decide +kernel
theorem dX11_heir_46 : decode cX11_heir 46 = .ok (.bipush (-103), 2) := by decide +kernel
theorem dX11_heir_48 : decode cX11_heir 48 = .ok (.ireturn, 1) := by decide +kernel
theorem dX11_heir_49 : decode cX11_heir 49 = .ok (.aload_n 0, 1) := by decide +kernel
theorem dX11_heir_50 : decode cX11_heir 50 = .ok (.getfield 28, 3) := by decide +kernel
theorem dX11_heir_53 : decode cX11_heir 53 = .ok (.getfield 138, 3) := by decide +kernel
theorem dX11_heir_56 : decode cX11_heir 56 = .ok (.iload_n 1, 1) := by decide +kernel
theorem dX11_heir_57 : decode cX11_heir 57 = .ok (.iaload, 1) := by decide +kernel
theorem dX11_heir_58 : decode cX11_heir 58 = .ok (.istore_n 3, 1) := by decide +kernel
theorem dX11_heir_59 : decode cX11_heir 59 = .ok (.aload_n 0, 1) := by decide +kernel
theorem dX11_heir_60 : decode cX11_heir 60 = .ok (.getfield 28, 3) := by decide +kernel
theorem dX11_heir_63 : decode cX11_heir 63 = .ok (.getfield 138, 3) := by decide +kernel
theorem dX11_heir_66 : decode cX11_heir 66 = .ok (.iload_n 1, 1) := by decide +kernel
theorem dX11_heir_67 : decode cX11_heir 67 = .ok (.iload_n 2, 1) := by decide +kernel
theorem dX11_heir_68 : decode cX11_heir 68 = .ok (.iastore, 1) := by decide +kernel
theorem dX11_heir_69 : decode cX11_heir 69 = .ok (.iload_n 3, 1) := by decide +kernel
theorem dX11_heir_70 : decode cX11_heir 70 = .ok (.ireturn, 1) := by decide +kernel
theorem dX11_buy_0 : decode cX11_buy 0 = .ok (.iload_n 1, 1) := by decide +kernel
theorem dX11_buy_1 : decode cX11_buy 1 = .ok (.invokestatic 131, 3) := by decide +kernel
theorem dX11_buy_4 : decode cX11_buy 4 = .ok (.ifCond .eq 11, 3) := by decide +kernel
theorem dX11_buy_7 : decode cX11_buy 7 = .ok (.aload_n 0, 1) := by decide +kernel
theorem dX11_buy_8 : decode cX11_buy 8 = .ok (.iload_n 2, 1) := by decide +kernel
theorem dX11_buy_9 : decode cX11_buy 9 = .ok (.invokevirtual 98, 3) := by decide +kernel
theorem dX11_buy_12 : decode cX11_buy 12 = .ok (.ifCond .ne 6, 3) := by decide +kernel
theorem dX11_buy_15 : decode cX11_buy 15 = .ok (.bipush (-101), 2) := by decide +kernel
theorem dX11_buy_17 : decode cX11_buy 17 = .ok (.ireturn, 1) := by decide +kernel
theorem dX11_buy_18 : decode cX11_buy 18 = .ok (.iload_n 3, 1) := by decide +kernel
theorem dX11_buy_19 : decode cX11_buy 19 = .ok (.invokestatic 169, 3) := by decide +kernel
theorem dX11_buy_22 : decode cX11_buy 22 = .ok (.ifCond .ne 6, 3) := by decide +kernel
theorem dX11_buy_25 : decode cX11_buy 25 = .ok (.bipush (-102), 2) := by decide +kernel
theorem dX11_buy_27 : decode cX11_buy 27 = .ok (.ireturn, 1) := by decide +kernel
theorem dX11_buy_28 : decode cX11_buy 28 = .ok (.aload_n 0, 1) := by decide +kernel
theorem dX11_buy_29 : decode cX11_buy 29 = .ok (.getfield 28, 3) := by decide +kernel
theorem dX11_buy_32 : decode cX11_buy 32 = .ok (.iload_n 1, 1) := by decide +kernel
theorem dX11_buy_33 : decode cX11_buy 33 = .ok (.iload_n 2, 1) := by decide +kernel
theorem dX11_buy_34 : decode cX11_buy 34 = .ok (.iload_n 3, 1) := by decide +kernel
theorem dX11_buy_35 : decode cX11_buy 35 = .ok (.invokevirtual 172, 3) := by decide +kernel
theorem dX11_buy_38 : decode cX11_buy 38 = .ok (.ifCond .eq 16, 3) := by decide +kernel
theorem dX11_buy_41 : decode cX11_buy 41 = .ok (.aload_n 0, 1) := by decide +kernel
theorem dX11_buy_42 : decode cX11_buy 42 = .ok (.getfield 28, 3) := by decide +kernel
theorem dX11_buy_45 : decode cX11_buy 45 = .ok (.iload_n 1, 1) := by decide +kernel
theorem dX11_buy_46 : decode cX11_buy 46 = .ok (.iload_n 2, 1) := by decide +kernel
theorem dX11_buy_47 : decode cX11_buy 47 = .ok (.iload_n 3, 1) := by decide +kernel
theorem dX11_buy_48 : decode cX11_buy 48 = .ok (.invokevirtual 176, 3) := by decide +kernel
theorem dX11_buy_51 : decode cX11_buy 51 = .ok (.goto 5, 3) := by decide +kernel
theorem dX11_buy_54 : decode cX11_buy 54 = .ok (.bipush (-103), 2) := by decide +kernel
theorem dX11_buy_56 : decode cX11_buy 56 = .ok (.ireturn, 1) := by decide +kernel
theorem dX11_lend_0 : decode cX11_lend 0 = .ok (.aload_n 0, 1) := by decide +kernel
theorem dX11_lend_1 : decode cX11_lend 1 = .ok (.iload_n 1, 1) := by decide +kernel
theorem dX11_lend_2 : decode cX11_lend 2 = .ok (.invokevirtual 98, 3) := by decide +kernel
theorem dX11_lend_5 : decode cX11_lend 5 = .ok (.ifCond .eq 10, 3) := by decide +kernel
theorem dX11_lend_8 : decode cX11_lend 8 = .ok (.iload_n 3, 1) := by decide +kernel
theorem dX11_lend_9 : decode cX11_lend 9 = .ok (.invokestatic 131, 3) := by decide +kernel
theorem dX11_lend_12 : decode cX11_lend 12 = .ok (.ifCond .ne 6, 3) := by decide +kernel
theorem dX11_lend_15 : decode cX11_lend 15 = .ok (.bipush (-101), 2) := by decide +kernel
theorem dX11_lend_17 : decode cX11_lend 17 = .ok (.ireturn, 1) := by decide +kernel
theorem dX11_lend_18 : decode cX11_lend 18 = .ok (.iload_n 2, 1) := by decide +kernel
theorem dX11_lend_19 : decode cX11_lend 19 = .ok (.invokestatic 169, 3) := by decide +kernel
theorem dX11_lend_22 : decode cX11_lend 22 = .ok (.ifCond .ne 6, 3) := by decide +kernel
theorem dX11_lend_25 : decode cX11_lend 25 = .ok (.bipush (-102), 2) := by decide +kernel
theorem dX11_lend_27 : decode cX11_lend 27 = .ok (.ireturn, 1) := by decide +kernel
theorem dX11_lend_28 : decode cX11_lend 28 = .ok (.aload_n 0, 1) := by decide +kernel
theorem dX11_lend_29 : decode cX11_lend 29 = .ok (.getfield 28, 3) := by decide +kernel
theorem dX11_lend_32 : decode cX11_lend 32 = .ok (.iload_n 1, 1) := by decide +kernel
theorem dX11_lend_33 : decode cX11_lend 33 = .ok (.iload_n 2, 1) := by decide +kernel
theorem dX11_lend_34 : decode cX11_lend 34 = .ok (.iload_n 3, 1) := by decide +kernel
theorem dX11_lend_35 : decode cX11_lend 35 = .ok (.invokevirtual 180, 3) := by decide +kernel
theorem dX11_lend_38 : decode cX11_lend 38 = .ok (.ifCond .ne 6, 3) := by decide +kernel
theorem dX11_lend_41 : decode cX11_lend 41 = .ok (.bipush (-103), 2) := by decide +kernel
theorem dX11_lend_43 : decode cX11_lend 43 = .ok (.ireturn, 1) := by decide +kernel
theorem dX11_lend_44 : decode cX11_lend 44 = .ok (.aload_n 0, 1) := by decide +kernel
theorem dX11_lend_45 : decode cX11_lend 45 = .ok (.getfield 28, 3) := by decide +kernel
theorem dX11_lend_48 : decode cX11_lend 48 = .ok (.getfield 183, 3) := by decide +kernel
theorem dX11_lend_51 : decode cX11_lend 51 = .ok (.iconst 2, 1) := by decide +kernel
theorem dX11_lend_52 : decode cX11_lend 52 = .ok (.iload_n 1, 1) := by decide +kernel
theorem dX11_lend_53 : decode cX11_lend 53 = .ok (.imul, 1) := by decide +kernel
theorem dX11_lend_54 : decode cX11_lend 54 = .ok (.iload_n 2, 1) := by decide +kernel
theorem dX11_lend_55 : decode cX11_lend 55 = .ok (.iadd, 1) := by decide +kernel
theorem dX11_lend_56 : decode cX11_lend 56 = .ok (.iload_n 3, 1) := by decide +kernel
theorem dX11_lend_57 : decode cX11_lend 57 = .ok (.iastore, 1) := by decide +kernel
theorem dX11_lend_58 : decode cX11_lend 58 = .ok (.aload_n 0, 1) := by decide +kernel
theorem dX11_lend_59 : decode cX11_lend 59 = .ok (.getfield 28, 3) := by decide +kernel
theorem dX11_lend_62 : decode cX11_lend 62 = .ok (.iload_n 1, 1) := by decide +kernel
theorem dX11_lend_63 : decode cX11_lend 63 = .ok (.iload_n 2, 1) := by decide +kernel
theorem dX11_lend_64 : decode cX11_lend 64 = .ok (.invokevirtual 121, 3) := by decide +kernel
theorem dX11_lend_67 : decode cX11_lend 67 = .ok (.ireturn, 1) := by decide +kernel
theorem dX11_peace_0 : decode cX11_peace 0 = .ok (.aload_n 0, 1) := by decide +kernel
theorem dX11_peace_1 : decode cX11_peace 1 = .ok (.iload_n 1, 1) := by decide +kernel
theorem dX11_peace_2 : decode cX11_peace 2 = .ok (.invokevirtual 98, 3) := by decide +kernel
theorem dX11_peace_5 : decode cX11_peace 5 = .ok (.ifCond .ne 6, 3) := by decide +kernel
theorem dX11_peace_8 : decode cX11_peace 8 = .ok (.bipush (-101), 2) := by decide +kernel
theorem dX11_peace_10 : decode cX11_peace 10 = .ok (.ireturn, 1) := by decide +kernel
theorem dX11_peace_11 : decode cX11_peace 11 = .ok (.aload_n 0, 1) := by decide +kernel
theorem dX11_peace_12 : decode cX11_peace 12 = .ok (.getfield 28, 3) := by decide +kernel
theorem dX11_peace_15 : decode cX11_peace 15 = .ok (.iload_n 1, 1) := by decide +kernel
theorem dX11_peace_16 : decode cX11_peace 16 = .ok (.invokevirtual 186, 3) := by decide +kernel
theorem dX11_peace_19 : decode cX11_peace 19 = .ok (.ifCond .ne 6, 3) := by decide +kernel
theorem dX11_peace_22 : decode cX11_peace 22 = .ok (.bipush (-103), 2) := by decide +kernel
theorem dX11_peace_24 : decode cX11_peace 24 = .ok (.ireturn, 1) := by decide +kernel
theorem dX11_peace_25 : decode cX11_peace 25 = .ok (.aload_n 0, 1) := by decide +kernel
theorem dX11_peace_26 : decode cX11_peace 26 = .ok (.getfield 28, 3) := by decide +kernel
theorem dX11_peace_29 : decode cX11_peace 29 = .ok (.iload_n 1, 1) := by decide +kernel
theorem dX11_peace_30 : decode cX11_peace 30 = .ok (.invokevirtual 189, 3) := by decide +kernel
theorem dX11_peace_33 : decode cX11_peace 33 = .ok (.aload_n 0, 1) := by decide +kernel
theorem dX11_peace_34 : decode cX11_peace 34 = .ok (.getfield 28, 3) := by decide +kernel
theorem dX11_peace_37 : decode cX11_peace 37 = .ok (.invokevirtual 193, 3) := by decide +kernel
theorem dX11_peace_40 : decode cX11_peace 40 = .ok (.ireturn, 1) := by decide +kernel
theorem dX11_death_0 : decode cX11_death 0 = .ok (.iload_n 1, 1) := by decide +kernel
theorem dX11_death_1 : decode cX11_death 1 = .ok (.invokestatic 131, 3) := by decide +kernel
theorem dX11_death_4 : decode cX11_death 4 = .ok (.ifCond .ne 6, 3) := by decide +kernel
theorem dX11_death_7 : decode cX11_death 7 = .ok (.bipush (-101), 2) := by decide +kernel
theorem dX11_death_9 : decode cX11_death 9 = .ok (.ireturn, 1) := by decide +kernel
theorem dX11_death_10 : decode cX11_death 10 = .ok (.aload_n 0, 1) := by decide +kernel
theorem dX11_death_11 : decode cX11_death 11 = .ok (.invokevirtual 166, 3) := by decide +kernel
theorem dX11_death_14 : decode cX11_death 14 = .ok (.ifCond .eq 26, 3) := by decide +kernel
theorem dX11_death_17 : decode cX11_death 17 = .ok (.aload_n 0, 1) := by decide +kernel
theorem dX11_death_18 : decode cX11_death 18 = .ok (.getfield 28, 3) := by decide +kernel
theorem dX11_death_21 : decode cX11_death 21 = .ok (.getfield 141, 3) := by decide +kernel
theorem dX11_death_24 : decode cX11_death 24 = .ok (.iload_n 1, 1) := by decide +kernel
theorem dX11_death_25 : decode cX11_death 25 = .ok (.baload, 1) := by decide +kernel
theorem dX11_death_26 : decode cX11_death 26 = .ok (.ifCond .eq 14, 3) := by decide +kernel
theorem dX11_death_29 : decode cX11_death 29 = .ok (.aload_n 0, 1) := by decide +kernel
theorem dX11_death_30 : decode cX11_death 30 = .ok (.getfield 28, 3) := by decide +kernel
theorem dX11_death_33 : decode cX11_death 33 = .ok (.iload_n 1, 1) := by decide +kernel
theorem dX11_death_34 : decode cX11_death 34 = .ok (.invokevirtual 196, 3) := by decide +kernel
theorem dX11_death_37 : decode cX11_death 37 = .ok (.goto 5, 3) := by decide +kernel
theorem dX11_death_40 : decode cX11_death 40 = .ok (.bipush (-103), 2) := by decide +kernel
theorem dX11_death_42 : decode cX11_death 42 = .ok (.ireturn, 1) := by decide +kernel
theorem dX11_mayHarm_0 : decode cX11_mayHarm 0 = .ok (.iload_n 1, 1) := by decide +kernel
theorem dX11_mayHarm_1 : decode cX11_mayHarm 1 = .ok (.iload_n 2, 1) := by decide +kernel
theorem dX11_mayHarm_2 : decode cX11_mayHarm 2 = .ok (.invokestatic 199, 3) := by decide +kernel
theorem dX11_mayHarm_5 : decode cX11_mayHarm 5 = .ok (.ifCond .eq 15, 3) := by decide +kernel
theorem dX11_mayHarm_8 : decode cX11_mayHarm 8 = .ok (.aload_n 0, 1) := by decide +kernel
theorem dX11_mayHarm_9 : decode cX11_mayHarm 9 = .ok (.getfield 28, 3) := by decide +kernel
theorem dX11_mayHarm_12 : decode cX11_mayHarm 12 = .ok (.iload_n 1, 1) := by decide +kernel
theorem dX11_mayHarm_13 : decode cX11_mayHarm 13 = .ok (.iload_n 2, 1) := by decide +kernel
theorem dX11_mayHarm_14 : decode cX11_mayHarm 14 = .ok (.invokevirtual 203, 3) := by decide +kernel
theorem dX11_mayHarm_17 : decode cX11_mayHarm 17 = .ok (.goto 5, 3) := by decide +kernel
theorem dX11_mayHarm_20 : decode cX11_mayHarm 20 = .ok (.bipush (-101), 2) := by decide +kernel
theorem dX11_mayHarm_22 : decode cX11_mayHarm 22 = .ok (.ireturn, 1) := by decide +kernel
theorem dX11_harm_0 : decode cX11_harm 0 = .ok (.iload_n 1, 1) := by decide +kernel
theorem dX11_harm_1 : decode cX11_harm 1 = .ok (.iload_n 2, 1) := by decide +kernel
theorem dX11_harm_2 : decode cX11_harm 2 = .ok (.invokestatic 199, 3) := by decide +kernel
theorem dX11_harm_5 : decode cX11_harm 5 = .ok (.ifCond .ne 6, 3) := by decide +kernel
theorem dX11_harm_8 : decode cX11_harm 8 = .ok (.bipush (-101), 2) := by decide +kernel
theorem dX11_harm_10 : decode cX11_harm 10 = .ok (.ireturn, 1) := by decide +kernel
theorem dX11_harm_11 : decode cX11_harm 11 = .ok (.aload_n 0, 1) := by decide +kernel
theorem dX11_harm_12 : decode cX11_harm 12 = .ok (.getfield 28, 3) := by decide +kernel
theorem dX11_harm_15 : decode cX11_harm 15 = .ok (.iload_n 1, 1) := by decide +kernel
theorem dX11_harm_16 : decode cX11_harm 16 = .ok (.iload_n 2, 1) := by decide +kernel
theorem dX11_harm_17 : decode cX11_harm 17 = .ok (.invokevirtual 203, 3) := by decide +kernel
theorem dX11_harm_20 : decode cX11_harm 20 = .ok (.istore_n 3, 1) := by decide +kernel
theorem dX11_harm_21 : decode cX11_harm 21 = .ok (.iload_n 3, 1) := by decide +kernel
theorem dX11_harm_22 : decode cX11_harm 22 = .ok (.iconst (-1), 1) := by decide +kernel
theorem dX11_harm_23 : decode cX11_harm 23 = .ok (.if_icmp .ne 6, 3) := by decide +kernel
theorem dX11_harm_26 : decode cX11_harm 26 = .ok (.bipush (-103), 2) := by decide +kernel
theorem dX11_harm_28 : decode cX11_harm 28 = .ok (.ireturn, 1) := by decide +kernel
theorem dX11_harm_29 : decode cX11_harm 29 = .ok (.aload_n 0, 1) := by decide +kernel
theorem dX11_harm_30 : decode cX11_harm 30 = .ok (.getfield 28, 3) := by decide +kernel
theorem dX11_harm_33 : decode cX11_harm 33 = .ok (.iload_n 1, 1) := by decide +kernel
theorem dX11_harm_34 : decode cX11_harm 34 = .ok (.iload_n 2, 1) := by decide +kernel
theorem dX11_harm_35 : decode cX11_harm 35 = .ok (.invokevirtual 206, 3) := by decide +kernel
theorem dX11_harm_38 : decode cX11_harm 38 = .ok (.ifCond .eq 7, 3) := by decide +kernel
theorem dX11_harm_41 : decode cX11_harm 41 = .ok (.iload_n 3, 1) := by decide +kernel
theorem dX11_harm_42 : decode cX11_harm 42 = .ok (.goto 5, 3) := by decide +kernel
theorem dX11_harm_45 : decode cX11_harm 45 = .ok (.bipush (-104), 2) := by decide +kernel
theorem dX11_harm_47 : decode cX11_harm 47 = .ok (.ireturn, 1) := by decide +kernel
theorem dX11_season_0 : decode cX11_season 0 = .ok (.aload_n 0, 1) := by decide +kernel
theorem dX11_season_1 : decode cX11_season 1 = .ok (.invokevirtual 166, 3) := by decide +kernel
theorem dX11_season_4 : decode cX11_season 4 = .ok (.ifCond .eq 13, 3) := by decide +kernel
theorem dX11_season_7 : decode cX11_season 7 = .ok (.aload_n 0, 1) := by decide +kernel
theorem dX11_season_8 : decode cX11_season 8 = .ok (.getfield 28, 3) := by decide +kernel
theorem dX11_season_11 : decode cX11_season 11 = .ok (.invokevirtual 209, 3) := by decide +kernel
theorem dX11_season_14 : decode cX11_season 14 = .ok (.goto 5, 3) := by decide +kernel
theorem dX11_season_17 : decode cX11_season 17 = .ok (.bipush (-103), 2) := by decide +kernel
theorem dX11_season_19 : decode cX11_season 19 = .ok (.ireturn, 1) := by decide +kernel
theorem dX11_comeBy_0 : decode cX11_comeBy 0 = .ok (.iload_n 1, 1) := by decide +kernel
theorem dX11_comeBy_1 : decode cX11_comeBy 1 = .ok (.iload_n 2, 1) := by decide +kernel
theorem dX11_comeBy_2 : decode cX11_comeBy 2 = .ok (.invokestatic 199, 3) := by decide +kernel
theorem dX11_comeBy_5 : decode cX11_comeBy 5 = .ok (.ifCond .ne 6, 3) := by decide +kernel
theorem dX11_comeBy_8 : decode cX11_comeBy 8 = .ok (.bipush (-101), 2) := by decide +kernel
theorem dX11_comeBy_10 : decode cX11_comeBy 10 = .ok (.ireturn, 1) := by decide +kernel
theorem dX11_comeBy_11 : decode cX11_comeBy 11 = .ok (.iload_n 3, 1) := by decide +kernel
theorem dX11_comeBy_12 : decode cX11_comeBy 12 = .ok (.invokestatic 169, 3) := by decide +kernel
theorem dX11_comeBy_15 : decode cX11_comeBy 15 = .ok (.ifCond .ne 6, 3) := by decide +kernel
theorem dX11_comeBy_18 : decode cX11_comeBy 18 = .ok (.bipush (-102), 2) := by decide +kernel
theorem dX11_comeBy_20 : decode cX11_comeBy 20 = .ok (.ireturn, 1) := by decide +kernel
theorem dX11_comeBy_21 : decode cX11_comeBy 21 = .ok (.aload_n 0, 1) := by decide +kernel
theorem dX11_comeBy_22 : decode cX11_comeBy 22 = .ok (.invokevirtual 166, 3) := by decide +kernel
theorem dX11_comeBy_25 : decode cX11_comeBy 25 = .ok (.ifCond .eq 27, 3) := by decide +kernel
theorem dX11_comeBy_28 : decode cX11_comeBy 28 = .ok (.aload_n 0, 1) := by decide +kernel
theorem dX11_comeBy_29 : decode cX11_comeBy 29 = .ok (.getfield 28, 3) := by decide +kernel
theorem dX11_comeBy_32 : decode cX11_comeBy 32 = .ok (.getfield 141, 3) := by decide +kernel
theorem dX11_comeBy_35 : decode cX11_comeBy 35 = .ok (.iload_n 1, 1) := by decide +kernel
theorem dX11_comeBy_36 : decode cX11_comeBy 36 = .ok (.baload, 1) := by decide +kernel
theorem dX11_comeBy_37 : decode cX11_comeBy 37 = .ok (.ifCond .eq 15, 3) := by decide +kernel
theorem dX11_comeBy_40 : decode cX11_comeBy 40 = .ok (.aload_n 0, 1) := by decide +kernel
theorem dX11_comeBy_41 : decode cX11_comeBy 41 = .ok (.getfield 28, 3) := by decide +kernel
theorem dX11_comeBy_44 : decode cX11_comeBy 44 = .ok (.getfield 141, 3) := by decide +kernel
theorem dX11_comeBy_47 : decode cX11_comeBy 47 = .ok (.iload_n 2, 1) := by decide +kernel
theorem dX11_comeBy_48 : decode cX11_comeBy 48 = .ok (.baload, 1) := by decide +kernel
theorem dX11_comeBy_49 : decode cX11_comeBy 49 = .ok (.ifCond .ne 6, 3) := by decide +kernel
theorem dX11_comeBy_52 : decode cX11_comeBy 52 = .ok (.bipush (-103), 2) := by decide +kernel
theorem dX11_comeBy_54 : decode cX11_comeBy 54 = .ok (.ireturn, 1) := by decide +kernel
theorem dX11_comeBy_55 : decode cX11_comeBy 55 = .ok (.iconst (-1), 1) := by decide +kernel
theorem dX11_comeBy_56 : decode cX11_comeBy 56 = .ok (.istore 4, 2) := by decide +kernel
theorem dX11_comeBy_58 : decode cX11_comeBy 58 = .ok (.iconst (-1), 1) := by decide +kernel
theorem dX11_comeBy_59 : decode cX11_comeBy 59 = .ok (.istore 5, 2) := by decide +kernel
theorem dX11_comeBy_61 : decode cX11_comeBy 61 = .ok (.iconst 0, 1) := by decide +kernel
theorem dX11_comeBy_62 : decode cX11_comeBy 62 = .ok (.istore 6, 2) := by decide +kernel
theorem dX11_comeBy_64 : decode cX11_comeBy 64 = .ok (.iload 6, 2) := by decide +kernel
theorem dX11_comeBy_66 : decode cX11_comeBy 66 = .ok (.aload_n 0, 1) := by decide +kernel
theorem dX11_comeBy_67 : decode cX11_comeBy 67 = .ok (.getfield 19, 3) := by decide +kernel
theorem dX11_comeBy_70 : decode cX11_comeBy 70 = .ok (.getfield 95, 3) := by decide +kernel
theorem dX11_comeBy_73 : decode cX11_comeBy 73 = .ok (.if_icmp .ge 57, 3) := by decide +kernel
theorem dX11_comeBy_76 : decode cX11_comeBy 76 = .ok (.aload_n 0, 1) := by decide +kernel
theorem dX11_comeBy_77 : decode cX11_comeBy 77 = .ok (.iload 6, 2) := by decide +kernel
theorem dX11_comeBy_79 : decode cX11_comeBy 79 = .ok (.iload_n 1, 1) := by decide +kernel
theorem dX11_comeBy_80 : decode cX11_comeBy 80 = .ok (.iload_n 2, 1) := by decide +kernel
theorem dX11_comeBy_81 : decode cX11_comeBy 81 = .ok (.invokevirtual 212, 3) := by decide +kernel
theorem dX11_comeBy_84 : decode cX11_comeBy 84 = .ok (.aload_n 0, 1) := by decide +kernel
theorem dX11_comeBy_85 : decode cX11_comeBy 85 = .ok (.iload 6, 2) := by decide +kernel
theorem dX11_comeBy_87 : decode cX11_comeBy 87 = .ok (.iload_n 2, 1) := by decide +kernel
theorem dX11_comeBy_88 : decode cX11_comeBy 88 = .ok (.iload_n 1, 1) := by decide +kernel
theorem dX11_comeBy_89 : decode cX11_comeBy 89 = .ok (.invokevirtual 212, 3) := by decide +kernel
theorem dX11_comeBy_92 : decode cX11_comeBy 92 = .ok (.invokestatic 215, 3) := by decide +kernel
theorem dX11_comeBy_95 : decode cX11_comeBy 95 = .ok (.istore 7, 2) := by decide +kernel
theorem dX11_comeBy_97 : decode cX11_comeBy 97 = .ok (.iload 7, 2) := by decide +kernel
theorem dX11_comeBy_99 : decode cX11_comeBy 99 = .ok (.iconst (-1), 1) := by decide +kernel
theorem dX11_comeBy_100 : decode cX11_comeBy 100 = .ok (.if_icmp .eq 24, 3) := by decide +kernel
theorem dX11_comeBy_103 : decode cX11_comeBy 103 = .ok (.iload 5, 2) := by decide +kernel
theorem dX11_comeBy_105 : decode cX11_comeBy 105 = .ok (.iconst (-1), 1) := by decide +kernel
theorem dX11_comeBy_106 : decode cX11_comeBy 106 = .ok (.if_icmp .eq 10, 3) := by decide +kernel
theorem dX11_comeBy_109 : decode cX11_comeBy 109 = .ok (.iload 7, 2) := by decide +kernel
theorem dX11_comeBy_111 : decode cX11_comeBy 111 = .ok (.iload 5, 2) := by decide +kernel
theorem dX11_comeBy_113 : decode cX11_comeBy 113 = .ok (.if_icmp .ge 11, 3) := by decide +kernel
theorem dX11_comeBy_116 : decode cX11_comeBy 116 = .ok (.iload 7, 2) := by decide +kernel
theorem dX11_comeBy_118 : decode cX11_comeBy 118 = .ok (.istore 5, 2) := by decide +kernel
theorem dX11_comeBy_120 : decode cX11_comeBy 120 = .ok (.iload 6, 2) := by decide +kernel
theorem dX11_comeBy_122 : decode cX11_comeBy 122 = .ok (.istore 4, 2) := by decide +kernel
theorem dX11_comeBy_124 : decode cX11_comeBy 124 = .ok (.iinc 6 1, 3) := by decide +kernel
theorem dX11_comeBy_127 : decode cX11_comeBy 127 = .ok (.goto (-63), 3) := by decide +kernel
theorem dX11_comeBy_130 : decode cX11_comeBy 130 = .ok (.iload_n 3, 1) := by decide +kernel
theorem dX11_comeBy_131 : decode cX11_comeBy 131 = .ok (.ifCond .ne 8, 3) := by decide +kernel
theorem dX11_comeBy_134 : decode cX11_comeBy 134 = .ok (.iload 5, 2) := by decide +kernel
theorem dX11_comeBy_136 : decode cX11_comeBy 136 = .ok (.goto 5, 3) := by decide +kernel
theorem dX11_comeBy_139 : decode cX11_comeBy 139 = .ok (.iload 4, 2) := by decide +kernel
theorem dX11_comeBy_141 : decode cX11_comeBy 141 = .ok (.ireturn, 1) := by decide +kernel
theorem dX11_marry_0 : decode cX11_marry 0 = .ok (.iload_n 1, 1) := by decide +kernel
theorem dX11_marry_1 : decode cX11_marry 1 = .ok (.invokestatic 169, 3) := by decide +kernel
theorem dX11_marry_4 : decode cX11_marry 4 = .ok (.ifCond .ne 6, 3) := by decide +kernel
theorem dX11_marry_7 : decode cX11_marry 7 = .ok (.bipush (-102), 2) := by decide +kernel
theorem dX11_marry_9 : decode cX11_marry 9 = .ok (.ireturn, 1) := by decide +kernel
theorem dX11_marry_10 : decode cX11_marry 10 = .ok (.aload_n 0, 1) := by decide +kernel
theorem dX11_marry_11 : decode cX11_marry 11 = .ok (.invokevirtual 166, 3) := by decide +kernel
theorem dX11_marry_14 : decode cX11_marry 14 = .ok (.ifCond .ne 6, 3) := by decide +kernel
theorem dX11_marry_17 : decode cX11_marry 17 = .ok (.bipush (-103), 2) := by decide +kernel
theorem dX11_marry_19 : decode cX11_marry 19 = .ok (.ireturn, 1) := by decide +kernel
theorem dX11_marry_20 : decode cX11_marry 20 = .ok (.aload_n 0, 1) := by decide +kernel
theorem dX11_marry_21 : decode cX11_marry 21 = .ok (.getfield 41, 3) := by decide +kernel
theorem dX11_marry_24 : decode cX11_marry 24 = .ok (.aload_n 0, 1) := by decide +kernel
theorem dX11_marry_25 : decode cX11_marry 25 = .ok (.getfield 28, 3) := by decide +kernel
theorem dX11_marry_28 : decode cX11_marry 28 = .ok (.invokevirtual 218, 3) := by decide +kernel
theorem dX11_marry_31 : decode cX11_marry 31 = .ok (.iload_n 1, 1) := by decide +kernel
theorem dX11_marry_32 : decode cX11_marry 32 = .ok (.ifCond .ne 13, 3) := by decide +kernel
theorem dX11_marry_35 : decode cX11_marry 35 = .ok (.aload_n 0, 1) := by decide +kernel
theorem dX11_marry_36 : decode cX11_marry 36 = .ok (.getfield 41, 3) := by decide +kernel
theorem dX11_marry_39 : decode cX11_marry 39 = .ok (.getfield 222, 3) := by decide +kernel
theorem dX11_marry_42 : decode cX11_marry 42 = .ok (.goto 10, 3) := by decide +kernel
theorem dX11_marry_45 : decode cX11_marry 45 = .ok (.aload_n 0, 1) := by decide +kernel
theorem dX11_marry_46 : decode cX11_marry 46 = .ok (.getfield 41, 3) := by decide +kernel
theorem dX11_marry_49 : decode cX11_marry 49 = .ok (.getfield 225, 3) := by decide +kernel
theorem dX11_marry_52 : decode cX11_marry 52 = .ok (.ireturn, 1) := by decide +kernel
theorem dX11_wills_0 : decode cX11_wills 0 = .ok (.iload_n 2, 1) := by decide +kernel
theorem dX11_wills_1 : decode cX11_wills 1 = .ok (.invokestatic 131, 3) := by decide +kernel
theorem dX11_wills_4 : decode cX11_wills 4 = .ok (.ifCond .ne 6, 3) := by decide +kernel
theorem dX11_wills_7 : decode cX11_wills 7 = .ok (.bipush (-101), 2) := by decide +kernel
theorem dX11_wills_9 : decode cX11_wills 9 = .ok (.ireturn, 1) := by decide +kernel
theorem dX11_wills_10 : decode cX11_wills 10 = .ok (.iload_n 1, 1) := by decide +kernel
theorem dX11_wills_11 : decode cX11_wills 11 = .ok (.ifCond .lt 9, 3) := by decide +kernel
theorem dX11_wills_14 : decode cX11_wills 14 = .ok (.iload_n 1, 1) := by decide +kernel
theorem dX11_wills_15 : decode cX11_wills 15 = .ok (.bipush 64, 2) := by decide +kernel
theorem dX11_wills_17 : decode cX11_wills 17 = .ok (.if_icmp .lt 6, 3) := by decide +kernel
theorem dX11_wills_20 : decode cX11_wills 20 = .ok (.bipush (-102), 2) := by decide +kernel
theorem dX11_wills_22 : decode cX11_wills 22 = .ok (.ireturn, 1) := by decide +kernel
theorem dX11_wills_23 : decode cX11_wills 23 = .ok (.aload_n 0, 1) := by decide +kernel
theorem dX11_wills_24 : decode cX11_wills 24 = .ok (.invokevirtual 166, 3) := by decide +kernel
theorem dX11_wills_27 : decode cX11_wills 27 = .ok (.ifCond .ne 6, 3) := by decide +kernel
theorem dX11_wills_30 : decode cX11_wills 30 = .ok (.bipush (-103), 2) := by decide +kernel
theorem dX11_wills_32 : decode cX11_wills 32 = .ok (.ireturn, 1) := by decide +kernel
theorem dX11_wills_33 : decode cX11_wills 33 = .ok (.aload_n 0, 1) := by decide +kernel
theorem dX11_wills_34 : decode cX11_wills 34 = .ok (.getfield 35, 3) := by decide +kernel
theorem dX11_wills_37 : decode cX11_wills 37 = .ok (.aload_n 0, 1) := by decide +kernel
theorem dX11_wills_38 : decode cX11_wills 38 = .ok (.getfield 28, 3) := by decide +kernel
theorem dX11_wills_41 : decode cX11_wills 41 = .ok (.invokevirtual 228, 3) := by decide +kernel
theorem dX11_wills_44 : decode cX11_wills 44 = .ok (.iconst 0, 1) := by decide +kernel
theorem dX11_wills_45 : decode cX11_wills 45 = .ok (.istore_n 3, 1) := by decide +kernel
theorem dX11_wills_46 : decode cX11_wills 46 = .ok (.iload_n 3, 1) := by decide +kernel
theorem dX11_wills_47 : decode cX11_wills 47 = .ok (.bipush 6, 2) := by decide +kernel
theorem dX11_wills_49 : decode cX11_wills 49 = .ok (.if_icmp .ge 39, 3) := by decide +kernel
theorem dX11_wills_52 : decode cX11_wills 52 = .ok (.iload_n 1, 1) := by decide +kernel
theorem dX11_wills_53 : decode cX11_wills 53 = .ok (.iload_n 3, 1) := by decide +kernel
theorem dX11_wills_54 : decode cX11_wills 54 = .ok (.ishr, 1) := by decide +kernel
theorem dX11_wills_55 : decode cX11_wills 55 = .ok (.iconst 1, 1) := by decide +kernel
theorem dX11_wills_56 : decode cX11_wills 56 = .ok (.iand, 1) := by decide +kernel
theorem dX11_wills_57 : decode cX11_wills 57 = .ok (.iconst 1, 1) := by decide +kernel
theorem dX11_wills_58 : decode cX11_wills 58 = .ok (.if_icmp .ne 24, 3) := by decide +kernel
theorem dX11_wills_61 : decode cX11_wills 61 = .ok (.aload_n 0, 1) := by decide +kernel
theorem dX11_wills_62 : decode cX11_wills 62 = .ok (.getfield 35, 3) := by decide +kernel
theorem dX11_wills_65 : decode cX11_wills 65 = .ok (.getfield 141, 3) := by decide +kernel
theorem dX11_wills_68 : decode cX11_wills 68 = .ok (.iload_n 3, 1) := by decide +kernel
theorem dX11_wills_69 : decode cX11_wills 69 = .ok (.baload, 1) := by decide +kernel
theorem dX11_wills_70 : decode cX11_wills 70 = .ok (.ifCond .eq 12, 3) := by decide +kernel
theorem dX11_wills_73 : decode cX11_wills 73 = .ok (.aload_n 0, 1) := by decide +kernel
theorem dX11_wills_74 : decode cX11_wills 74 = .ok (.getfield 35, 3) := by decide +kernel
theorem dX11_wills_77 : decode cX11_wills 77 = .ok (.iload_n 3, 1) := by decide +kernel
theorem dX11_wills_78 : decode cX11_wills 78 = .ok (.invokevirtual 196, 3) := by decide +kernel
theorem dX11_wills_81 : decode cX11_wills 81 = .ok (.pop, 1) := by decide +kernel
theorem dX11_wills_82 : decode cX11_wills 82 = .ok (.iinc 3 1, 3) := by decide +kernel
theorem dX11_wills_85 : decode cX11_wills 85 = .ok (.goto (-39), 3) := by decide +kernel
theorem dX11_wills_88 : decode cX11_wills 88 = .ok (.aload_n 0, 1) := by decide +kernel
theorem dX11_wills_89 : decode cX11_wills 89 = .ok (.getfield 35, 3) := by decide +kernel
theorem dX11_wills_92 : decode cX11_wills 92 = .ok (.iload_n 2, 1) := by decide +kernel
theorem dX11_wills_93 : decode cX11_wills 93 = .ok (.invokevirtual 144, 3) := by decide +kernel
theorem dX11_wills_96 : decode cX11_wills 96 = .ok (.ireturn, 1) := by decide +kernel
theorem dX11_left_0 : decode cX11_left 0 = .ok (.iload_n 1, 1) := by decide +kernel
theorem dX11_left_1 : decode cX11_left 1 = .ok (.iconst 1, 1) := by decide +kernel
theorem dX11_left_2 : decode cX11_left 2 = .ok (.if_icmp .lt 25, 3) := by decide +kernel
theorem dX11_left_5 : decode cX11_left 5 = .ok (.iload_n 1, 1) := by decide +kernel
theorem dX11_left_6 : decode cX11_left 6 = .ok (.iconst 2, 1) := by decide +kernel
theorem dX11_left_7 : decode cX11_left 7 = .ok (.if_icmp .gt 20, 3) := by decide +kernel
theorem dX11_left_10 : decode cX11_left 10 = .ok (.iload_n 2, 1) := by decide +kernel
theorem dX11_left_11 : decode cX11_left 11 = .ok (.ifCond .lt 16, 3) := by decide +kernel
theorem dX11_left_14 : decode cX11_left 14 = .ok (.iload_n 2, 1) := by decide +kernel
theorem dX11_left_15 : decode cX11_left 15 = .ok (.bipush 8, 2) := by decide +kernel
theorem dX11_left_17 : decode cX11_left 17 = .ok (.if_icmp .gt 10, 3) := by decide +kernel
theorem dX11_left_20 : decode cX11_left 20 = .ok (.iload_n 3, 1) := by decide +kernel
theorem dX11_left_21 : decode cX11_left 21 = .ok (.invokestatic 169, 3) := by decide +kernel
theorem dX11_left_24 : decode cX11_left 24 = .ok (.ifCond .ne 7, 3) := by decide +kernel
theorem dX11_left_27 : decode cX11_left 27 = .ok (.ldc2_w 231, 3) := by decide +kernel
theorem dX11_left_30 : decode cX11_left 30 = .ok (.lreturn, 1) := by decide +kernel
theorem dX11_left_31 : decode cX11_left 31 = .ok (.aload_n 0, 1) := by decide +kernel
theorem dX11_left_32 : decode cX11_left 32 = .ok (.invokevirtual 166, 3) := by decide +kernel
theorem dX11_left_35 : decode cX11_left 35 = .ok (.ifCond .ne 7, 3) := by decide +kernel
theorem dX11_left_38 : decode cX11_left 38 = .ok (.ldc2_w 233, 3) := by decide +kernel
theorem dX11_left_41 : decode cX11_left 41 = .ok (.lreturn, 1) := by decide +kernel
theorem dX11_left_42 : decode cX11_left 42 = .ok (.aload_n 0, 1) := by decide +kernel
theorem dX11_left_43 : decode cX11_left 43 = .ok (.getfield 48, 3) := by decide +kernel
theorem dX11_left_46 : decode cX11_left 46 = .ok (.aload_n 0, 1) := by decide +kernel
theorem dX11_left_47 : decode cX11_left 47 = .ok (.getfield 28, 3) := by decide +kernel
theorem dX11_left_50 : decode cX11_left 50 = .ok (.iload_n 1, 1) := by decide +kernel
theorem dX11_left_51 : decode cX11_left 51 = .ok (.invokevirtual 235, 3) := by decide +kernel
theorem dX11_left_54 : decode cX11_left 54 = .ok (.iload_n 3, 1) := by decide +kernel
theorem dX11_left_55 : decode cX11_left 55 = .ok (.ifCond .ne 14, 3) := by decide +kernel
theorem dX11_left_58 : decode cX11_left 58 = .ok (.aload_n 0, 1) := by decide +kernel
theorem dX11_left_59 : decode cX11_left 59 = .ok (.getfield 48, 3) := by decide +kernel
theorem dX11_left_62 : decode cX11_left 62 = .ok (.iload_n 2, 1) := by decide +kernel
theorem dX11_left_63 : decode cX11_left 63 = .ok (.invokevirtual 239, 3) := by decide +kernel
theorem dX11_left_66 : decode cX11_left 66 = .ok (.goto 11, 3) := by decide +kernel
theorem dX11_left_69 : decode cX11_left 69 = .ok (.aload_n 0, 1) := by decide +kernel
theorem dX11_left_70 : decode cX11_left 70 = .ok (.getfield 48, 3) := by decide +kernel
theorem dX11_left_73 : decode cX11_left 73 = .ok (.iload_n 2, 1) := by decide +kernel
theorem dX11_left_74 : decode cX11_left 74 = .ok (.invokevirtual 243, 3) := by decide +kernel
theorem dX11_left_77 : decode cX11_left 77 = .ok (.lreturn, 1) := by decide +kernel
theorem dX11_register_0 : decode cX11_register 0 = .ok (.iload_n 1, 1) := by decide +kernel
theorem dX11_register_1 : decode cX11_register 1 = .ok (.iload_n 2, 1) := by decide +kernel
theorem dX11_register_2 : decode cX11_register 2 = .ok (.invokestatic 199, 3) := by decide +kernel
theorem dX11_register_5 : decode cX11_register 5 = .ok (.ifCond .ne 6, 3) := by decide +kernel
theorem dX11_register_8 : decode cX11_register 8 = .ok (.bipush (-101), 2) := by decide +kernel
theorem dX11_register_10 : decode cX11_register 10 = .ok (.ireturn, 1) := by decide +kernel
theorem dX11_register_11 : decode cX11_register 11 = .ok (.aload_n 0, 1) := by decide +kernel
theorem dX11_register_12 : decode cX11_register 12 = .ok (.getfield 28, 3) := by decide +kernel
theorem dX11_register_15 : decode cX11_register 15 = .ok (.iload_n 1, 1) := by decide +kernel
theorem dX11_register_16 : decode cX11_register 16 = .ok (.iload_n 2, 1) := by decide +kernel
theorem dX11_register_17 : decode cX11_register 17 = .ok (.invokevirtual 246, 3) := by decide +kernel
theorem dX11_register_20 : decode cX11_register 20 = .ok (.ifCond .eq 13, 3) := by decide +kernel
theorem dX11_register_23 : decode cX11_register 23 = .ok (.aload_n 0, 1) := by decide +kernel
theorem dX11_register_24 : decode cX11_register 24 = .ok (.getfield 28, 3) := by decide +kernel
theorem dX11_register_27 : decode cX11_register 27 = .ok (.getfield 249, 3) := by decide +kernel
theorem dX11_register_30 : decode cX11_register 30 = .ok (.goto 5, 3) := by decide +kernel
theorem dX11_register_33 : decode cX11_register 33 = .ok (.bipush (-104), 2) := by decide +kernel
theorem dX11_register_35 : decode cX11_register 35 = .ok (.ireturn, 1) := by decide +kernel
theorem dX11_forget_0 : decode cX11_forget 0 = .ok (.aload_n 0, 1) := by decide +kernel
theorem dX11_forget_1 : decode cX11_forget 1 = .ok (.getfield 28, 3) := by decide +kernel
theorem dX11_forget_4 : decode cX11_forget 4 = .ok (.getfield 249, 3) := by decide +kernel
theorem dX11_forget_7 : decode cX11_forget 7 = .ok (.istore_n 1, 1) := by decide +kernel
theorem dX11_forget_8 : decode cX11_forget 8 = .ok (.aload_n 0, 1) := by decide +kernel
theorem dX11_forget_9 : decode cX11_forget 9 = .ok (.getfield 28, 3) := by decide +kernel
theorem dX11_forget_12 : decode cX11_forget 12 = .ok (.iconst 0, 1) := by decide +kernel
theorem dX11_forget_13 : decode cX11_forget 13 = .ok (.putfield 249, 3) := by decide +kernel
theorem dX11_forget_16 : decode cX11_forget 16 = .ok (.iload_n 1, 1) := by decide +kernel
theorem dX11_forget_17 : decode cX11_forget 17 = .ok (.ireturn, 1) := by decide +kernel
theorem dX11_lapsed_0 : decode cX11_lapsed 0 = .ok (.iload_n 1, 1) := by decide +kernel
theorem dX11_lapsed_1 : decode cX11_lapsed 1 = .ok (.invokestatic 169, 3) := by decide +kernel
theorem dX11_lapsed_4 : decode cX11_lapsed 4 = .ok (.ifCond .ne 6, 3) := by decide +kernel
theorem dX11_lapsed_7 : decode cX11_lapsed 7 = .ok (.bipush (-102), 2) := by decide +kernel
theorem dX11_lapsed_9 : decode cX11_lapsed 9 = .ok (.ireturn, 1) := by decide +kernel
theorem dX11_lapsed_10 : decode cX11_lapsed 10 = .ok (.aload_n 0, 1) := by decide +kernel
theorem dX11_lapsed_11 : decode cX11_lapsed 11 = .ok (.invokevirtual 166, 3) := by decide +kernel
theorem dX11_lapsed_14 : decode cX11_lapsed 14 = .ok (.ifCond .ne 6, 3) := by decide +kernel
theorem dX11_lapsed_17 : decode cX11_lapsed 17 = .ok (.bipush (-103), 2) := by decide +kernel
theorem dX11_lapsed_19 : decode cX11_lapsed 19 = .ok (.ireturn, 1) := by decide +kernel
theorem dX11_lapsed_20 : decode cX11_lapsed 20 = .ok (.iconst 0, 1) := by decide +kernel
theorem dX11_lapsed_21 : decode cX11_lapsed 21 = .ok (.istore_n 2, 1) := by decide +kernel
theorem dX11_lapsed_22 : decode cX11_lapsed 22 = .ok (.iconst (-1), 1) := by decide +kernel
theorem dX11_lapsed_23 : decode cX11_lapsed 23 = .ok (.istore_n 3, 1) := by decide +kernel
theorem dX11_lapsed_24 : decode cX11_lapsed 24 = .ok (.iconst 0, 1) := by decide +kernel
theorem dX11_lapsed_25 : decode cX11_lapsed 25 = .ok (.istore 4, 2) := by decide +kernel
theorem dX11_lapsed_27 : decode cX11_lapsed 27 = .ok (.iload 4, 2) := by decide +kernel
theorem dX11_lapsed_29 : decode cX11_lapsed 29 = .ok (.bipush 6, 2) := by decide +kernel
theorem dX11_lapsed_31 : decode cX11_lapsed 31 = .ok (.if_icmp .ge 54, 3) := by decide +kernel
theorem dX11_lapsed_34 : decode cX11_lapsed 34 = .ok (.iload 4, 2) := by decide +kernel
theorem dX11_lapsed_36 : decode cX11_lapsed 36 = .ok (.iconst 1, 1) := by decide +kernel
theorem dX11_lapsed_37 : decode cX11_lapsed 37 = .ok (.iadd, 1) := by decide +kernel
theorem dX11_lapsed_38 : decode cX11_lapsed 38 = .ok (.istore 5, 2) := by decide +kernel
theorem dX11_lapsed_40 : decode cX11_lapsed 40 = .ok (.iload 5, 2) := by decide +kernel
theorem dX11_lapsed_42 : decode cX11_lapsed 42 = .ok (.bipush 6, 2) := by decide +kernel
theorem dX11_lapsed_44 : decode cX11_lapsed 44 = .ok (.if_icmp .ge 35, 3) := by decide +kernel
theorem dX11_lapsed_47 : decode cX11_lapsed 47 = .ok (.aload_n 0, 1) := by decide +kernel
theorem dX11_lapsed_48 : decode cX11_lapsed 48 = .ok (.getfield 28, 3) := by decide +kernel
theorem dX11_lapsed_51 : decode cX11_lapsed 51 = .ok (.iload 4, 2) := by decide +kernel
theorem dX11_lapsed_53 : decode cX11_lapsed 53 = .ok (.iload 5, 2) := by decide +kernel
theorem dX11_lapsed_55 : decode cX11_lapsed 55 = .ok (.invokevirtual 252, 3) := by decide +kernel
theorem dX11_lapsed_58 : decode cX11_lapsed 58 = .ok (.ifCond .eq 15, 3) := by decide +kernel
theorem dX11_lapsed_61 : decode cX11_lapsed 61 = .ok (.iinc 2 1, 3) := by decide +kernel
theorem dX11_lapsed_64 : decode cX11_lapsed 64 = .ok (.bipush 6, 2) := by decide +kernel
theorem dX11_lapsed_66 : decode cX11_lapsed 66 = .ok (.iload 4, 2) := by decide +kernel
theorem dX11_lapsed_68 : decode cX11_lapsed 68 = .ok (.imul, 1) := by decide +kernel
theorem dX11_lapsed_69 : decode cX11_lapsed 69 = .ok (.iload 5, 2) := by decide +kernel
theorem dX11_lapsed_71 : decode cX11_lapsed 71 = .ok (.iadd, 1) := by decide +kernel
theorem dX11_lapsed_72 : decode cX11_lapsed 72 = .ok (.istore_n 3, 1) := by decide +kernel
theorem dX11_lapsed_73 : decode cX11_lapsed 73 = .ok (.iinc 5 1, 3) := by decide +kernel
theorem dX11_lapsed_76 : decode cX11_lapsed 76 = .ok (.goto (-36), 3) := by decide +kernel
theorem dX11_lapsed_79 : decode cX11_lapsed 79 = .ok (.iinc 4 1, 3) := by decide +kernel
theorem dX11_lapsed_82 : decode cX11_lapsed 82 = .ok (.goto (-55), 3) := by decide +kernel
theorem dX11_lapsed_85 : decode cX11_lapsed 85 = .ok (.iload_n 1, 1) := by decide +kernel
theorem dX11_lapsed_86 : decode cX11_lapsed 86 = .ok (.ifCond .ne 5, 3) := by decide +kernel
theorem dX11_lapsed_89 : decode cX11_lapsed 89 = .ok (.iload_n 2, 1) := by decide +kernel
theorem dX11_lapsed_90 : decode cX11_lapsed 90 = .ok (.ireturn, 1) := by decide +kernel
theorem dX11_lapsed_91 : decode cX11_lapsed 91 = .ok (.iload_n 2, 1) := by decide +kernel
theorem dX11_lapsed_92 : decode cX11_lapsed 92 = .ok (.iconst 1, 1) := by decide +kernel
theorem dX11_lapsed_93 : decode cX11_lapsed 93 = .ok (.if_icmp .ne 7, 3) := by decide +kernel
theorem dX11_lapsed_96 : decode cX11_lapsed 96 = .ok (.iload_n 3, 1) := by decide +kernel
theorem dX11_lapsed_97 : decode cX11_lapsed 97 = .ok (.goto 4, 3) := by decide +kernel
theorem dX11_lapsed_100 : decode cX11_lapsed 100 = .ok (.iconst (-1), 1) := by decide +kernel
theorem dX11_lapsed_101 : decode cX11_lapsed 101 = .ok (.ireturn, 1) := by decide +kernel
theorem dX11_years_0 : decode cX11_years 0 = .ok (.iload_n 1, 1) := by decide +kernel
theorem dX11_years_1 : decode cX11_years 1 = .ok (.iconst 1, 1) := by decide +kernel
theorem dX11_years_2 : decode cX11_years 2 = .ok (.if_icmp .lt 22, 3) := by decide +kernel
theorem dX11_years_5 : decode cX11_years 5 = .ok (.iload_n 1, 1) := by decide +kernel
theorem dX11_years_6 : decode cX11_years 6 = .ok (.bipush 60, 2) := by decide +kernel
theorem dX11_years_8 : decode cX11_years 8 = .ok (.if_icmp .gt 16, 3) := by decide +kernel
theorem dX11_years_11 : decode cX11_years 11 = .ok (.iload_n 2, 1) := by decide +kernel
theorem dX11_years_12 : decode cX11_years 12 = .ok (.ifCond .lt 12, 3) := by decide +kernel
theorem dX11_years_15 : decode cX11_years 15 = .ok (.iload_n 3, 1) := by decide +kernel
theorem dX11_years_16 : decode cX11_years 16 = .ok (.ifCond .lt 8, 3) := by decide +kernel
theorem dX11_years_19 : decode cX11_years 19 = .ok (.iload_n 3, 1) := by decide +kernel
theorem dX11_years_20 : decode cX11_years 20 = .ok (.iconst 3, 1) := by decide +kernel
theorem dX11_years_21 : decode cX11_years 21 = .ok (.if_icmp .le 6, 3) := by decide +kernel
theorem dX11_years_24 : decode cX11_years 24 = .ok (.bipush (-102), 2) := by decide +kernel
theorem dX11_years_26 : decode cX11_years 26 = .ok (.ireturn, 1) := by decide +kernel
theorem dX11_years_27 : decode cX11_years 27 = .ok (.aload_n 0, 1) := by decide +kernel
theorem dX11_years_28 : decode cX11_years 28 = .ok (.invokevirtual 166, 3) := by decide +kernel
theorem dX11_years_31 : decode cX11_years 31 = .ok (.ifCond .ne 6, 3) := by decide +kernel
theorem dX11_years_34 : decode cX11_years 34 = .ok (.bipush (-103), 2) := by decide +kernel
theorem dX11_years_36 : decode cX11_years 36 = .ok (.ireturn, 1) := by decide +kernel
theorem dX11_years_37 : decode cX11_years 37 = .ok (.aload_n 0, 1) := by decide +kernel
theorem dX11_years_38 : decode cX11_years 38 = .ok (.getfield 35, 3) := by decide +kernel
theorem dX11_years_41 : decode cX11_years 41 = .ok (.aload_n 0, 1) := by decide +kernel
theorem dX11_years_42 : decode cX11_years 42 = .ok (.getfield 28, 3) := by decide +kernel
theorem dX11_years_45 : decode cX11_years 45 = .ok (.invokevirtual 228, 3) := by decide +kernel
theorem dX11_years_48 : decode cX11_years 48 = .ok (.aload_n 0, 1) := by decide +kernel
theorem dX11_years_49 : decode cX11_years 49 = .ok (.getfield 55, 3) := by decide +kernel
theorem dX11_years_52 : decode cX11_years 52 = .ok (.iload_n 2, 1) := by decide +kernel
theorem dX11_years_53 : decode cX11_years 53 = .ok (.putfield 255, 3) := by decide +kernel
theorem dX11_years_56 : decode cX11_years 56 = .ok (.iconst 0, 1) := by decide +kernel
theorem dX11_years_57 : decode cX11_years 57 = .ok (.istore 4, 2) := by decide +kernel
theorem dX11_years_59 : decode cX11_years 59 = .ok (.iload 4, 2) := by decide +kernel
theorem dX11_years_61 : decode cX11_years 61 = .ok (.iload_n 1, 1) := by decide +kernel
theorem dX11_years_62 : decode cX11_years 62 = .ok (.if_icmp .ge 13, 3) := by decide +kernel
theorem dX11_years_65 : decode cX11_years 65 = .ok (.aload_n 0, 1) := by decide +kernel
theorem dX11_years_66 : decode cX11_years 66 = .ok (.invokevirtual 258, 3) := by decide +kernel
theorem dX11_years_69 : decode cX11_years 69 = .ok (.iinc 4 1, 3) := by decide +kernel
theorem dX11_years_72 : decode cX11_years 72 = .ok (.goto (-13), 3) := by decide +kernel
theorem dX11_years_75 : decode cX11_years 75 = .ok (.iload_n 3, 1) := by decide +kernel
theorem dX11_years_76 : decode cX11_years 76 = .ok (.tableswitch 52 0 2 #[28, 36, 44], 28) := by decide +kernel
theorem dX11_years_104 : decode cX11_years 104 = .ok (.aload_n 0, 1) := by decide +kernel
theorem dX11_years_105 : decode cX11_years 105 = .ok (.getfield 35, 3) := by decide +kernel
theorem dX11_years_108 : decode cX11_years 108 = .ok (.invokevirtual 261, 3) := by decide +kernel
theorem dX11_years_111 : decode cX11_years 111 = .ok (.ireturn, 1) := by decide +kernel
theorem dX11_years_112 : decode cX11_years 112 = .ok (.aload_n 0, 1) := by decide +kernel
theorem dX11_years_113 : decode cX11_years 113 = .ok (.getfield 35, 3) := by decide +kernel
theorem dX11_years_116 : decode cX11_years 116 = .ok (.invokevirtual 264, 3) := by decide +kernel
theorem dX11_years_119 : decode cX11_years 119 = .ok (.ireturn, 1) := by decide +kernel
theorem dX11_years_120 : decode cX11_years 120 = .ok (.aload_n 0, 1) := by decide +kernel
theorem dX11_years_121 : decode cX11_years 121 = .ok (.getfield 35, 3) := by decide +kernel
theorem dX11_years_124 : decode cX11_years 124 = .ok (.invokevirtual 267, 3) := by decide +kernel
theorem dX11_years_127 : decode cX11_years 127 = .ok (.ireturn, 1) := by decide +kernel
theorem dX11_years_128 : decode cX11_years 128 = .ok (.aload_n 0, 1) := by decide +kernel
theorem dX11_years_129 : decode cX11_years 129 = .ok (.getfield 55, 3) := by decide +kernel
theorem dX11_years_132 : decode cX11_years 132 = .ok (.getfield 255, 3) := by decide +kernel
theorem dX11_years_135 : decode cX11_years 135 = .ok (.ireturn, 1) := by decide +kernel
theorem dX11_image_0 : decode cX11_image 0 = .ok (.aload_n 0, 1) := by decide +kernel
theorem dX11_image_1 : decode cX11_image 1 = .ok (.invokevirtual 166, 3) := by decide +kernel
theorem dX11_image_4 : decode cX11_image 4 = .ok (.ifCond .ne 6, 3) := by decide +kernel
theorem dX11_image_7 : decode cX11_image 7 = .ok (.bipush (-103), 2) := by decide +kernel
theorem dX11_image_9 : decode cX11_image 9 = .ok (.ireturn, 1) := by decide +kernel
theorem dX11_image_10 : decode cX11_image 10 = .ok (.aload_n 0, 1) := by decide +kernel
theorem dX11_image_11 : decode cX11_image 11 = .ok (.getfield 32, 3) := by decide +kernel
theorem dX11_image_14 : decode cX11_image 14 = .ok (.aload_n 0, 1) := by decide +kernel
theorem dX11_image_15 : decode cX11_image 15 = .ok (.getfield 28, 3) := by decide +kernel
theorem dX11_image_18 : decode cX11_image 18 = .ok (.invokevirtual 228, 3) := by decide +kernel
theorem dX11_image_21 : decode cX11_image 21 = .ok (.aload_n 0, 1) := by decide +kernel
theorem dX11_image_22 : decode cX11_image 22 = .ok (.iconst 1, 1) := by decide +kernel
theorem dX11_image_23 : decode cX11_image 23 = .ok (.putfield 59, 3) := by decide +kernel
theorem dX11_image_26 : decode cX11_image 26 = .ok (.aload_n 0, 1) := by decide +kernel
theorem dX11_image_27 : decode cX11_image 27 = .ok (.getfield 19, 3) := by decide +kernel
theorem dX11_image_30 : decode cX11_image 30 = .ok (.getfield 95, 3) := by decide +kernel
theorem dX11_image_33 : decode cX11_image 33 = .ok (.aload_n 0, 1) := by decide +kernel
theorem dX11_image_34 : decode cX11_image 34 = .ok (.getfield 28, 3) := by decide +kernel
theorem dX11_image_37 : decode cX11_image 37 = .ok (.invokevirtual 193, 3) := by decide +kernel
theorem dX11_image_40 : decode cX11_image 40 = .ok (.isub, 1) := by decide +kernel
theorem dX11_image_41 : decode cX11_image 41 = .ok (.ireturn, 1) := by decide +kernel
theorem dX11_restore_0 : decode cX11_restore 0 = .ok (.aload_n 0, 1) := by decide +kernel
theorem dX11_restore_1 : decode cX11_restore 1 = .ok (.getfield 59, 3) := by decide +kernel
theorem dX11_restore_4 : decode cX11_restore 4 = .ok (.ifCond .ne 6, 3) := by decide +kernel
theorem dX11_restore_7 : decode cX11_restore 7 = .ok (.bipush (-103), 2) := by decide +kernel
theorem dX11_restore_9 : decode cX11_restore 9 = .ok (.ireturn, 1) := by decide +kernel
theorem dX11_restore_10 : decode cX11_restore 10 = .ok (.aload_n 0, 1) := by decide +kernel
theorem dX11_restore_11 : decode cX11_restore 11 = .ok (.getfield 28, 3) := by decide +kernel
theorem dX11_restore_14 : decode cX11_restore 14 = .ok (.aload_n 0, 1) := by decide +kernel
theorem dX11_restore_15 : decode cX11_restore 15 = .ok (.getfield 32, 3) := by decide +kernel
theorem dX11_restore_18 : decode cX11_restore 18 = .ok (.invokevirtual 228, 3) := by decide +kernel
theorem dX11_restore_21 : decode cX11_restore 21 = .ok (.aload_n 0, 1) := by decide +kernel
theorem dX11_restore_22 : decode cX11_restore 22 = .ok (.getfield 19, 3) := by decide +kernel
theorem dX11_restore_25 : decode cX11_restore 25 = .ok (.getfield 95, 3) := by decide +kernel
theorem dX11_restore_28 : decode cX11_restore 28 = .ok (.aload_n 0, 1) := by decide +kernel
theorem dX11_restore_29 : decode cX11_restore 29 = .ok (.getfield 28, 3) := by decide +kernel
theorem dX11_restore_32 : decode cX11_restore 32 = .ok (.invokevirtual 193, 3) := by decide +kernel
theorem dX11_restore_35 : decode cX11_restore 35 = .ok (.isub, 1) := by decide +kernel
theorem dX11_restore_36 : decode cX11_restore 36 = .ok (.ireturn, 1) := by decide +kernel
theorem dX11_count_0 : decode cX11_count 0 = .ok (.iload_n 1, 1) := by decide +kernel
theorem dX11_count_1 : decode cX11_count 1 = .ok (.tableswitch 120 0 8 #[51, 59, 67, 75, 83, 91, 99, 107, 115], 51) := by decide +kernel
theorem dX11_count_52 : decode cX11_count 52 = .ok (.aload_n 0, 1) := by decide +kernel
theorem dX11_count_53 : decode cX11_count 53 = .ok (.getfield 19, 3) := by decide +kernel
theorem dX11_count_56 : decode cX11_count 56 = .ok (.getfield 95, 3) := by decide +kernel
theorem dX11_count_59 : decode cX11_count 59 = .ok (.ireturn, 1) := by decide +kernel
theorem dX11_count_60 : decode cX11_count 60 = .ok (.aload_n 0, 1) := by decide +kernel
theorem dX11_count_61 : decode cX11_count 61 = .ok (.getfield 28, 3) := by decide +kernel
theorem dX11_count_64 : decode cX11_count 64 = .ok (.invokevirtual 193, 3) := by decide +kernel
theorem dX11_count_67 : decode cX11_count 67 = .ok (.ireturn, 1) := by decide +kernel
theorem dX11_count_68 : decode cX11_count 68 = .ok (.aload_n 0, 1) := by decide +kernel
theorem dX11_count_69 : decode cX11_count 69 = .ok (.getfield 28, 3) := by decide +kernel
theorem dX11_count_72 : decode cX11_count 72 = .ok (.invokevirtual 261, 3) := by decide +kernel
theorem dX11_count_75 : decode cX11_count 75 = .ok (.ireturn, 1) := by decide +kernel
theorem dX11_count_76 : decode cX11_count 76 = .ok (.aload_n 0, 1) := by decide +kernel
theorem dX11_count_77 : decode cX11_count 77 = .ok (.getfield 28, 3) := by decide +kernel
theorem dX11_count_80 : decode cX11_count 80 = .ok (.invokevirtual 267, 3) := by decide +kernel
theorem dX11_count_83 : decode cX11_count 83 = .ok (.ireturn, 1) := by decide +kernel
theorem dX11_count_84 : decode cX11_count 84 = .ok (.aload_n 0, 1) := by decide +kernel
theorem dX11_count_85 : decode cX11_count 85 = .ok (.getfield 28, 3) := by decide +kernel
theorem dX11_count_88 : decode cX11_count 88 = .ok (.invokevirtual 270, 3) := by decide +kernel
theorem dX11_count_91 : decode cX11_count 91 = .ok (.ireturn, 1) := by decide +kernel
theorem dX11_count_92 : decode cX11_count 92 = .ok (.aload_n 0, 1) := by decide +kernel
theorem dX11_count_93 : decode cX11_count 93 = .ok (.getfield 28, 3) := by decide +kernel
theorem dX11_count_96 : decode cX11_count 96 = .ok (.getfield 156, 3) := by decide +kernel
theorem dX11_count_99 : decode cX11_count 99 = .ok (.ireturn, 1) := by decide +kernel
theorem dX11_count_100 : decode cX11_count 100 = .ok (.aload_n 0, 1) := by decide +kernel
theorem dX11_count_101 : decode cX11_count 101 = .ok (.getfield 28, 3) := by decide +kernel
theorem dX11_count_104 : decode cX11_count 104 = .ok (.getfield 249, 3) := by decide +kernel
theorem dX11_count_107 : decode cX11_count 107 = .ok (.ireturn, 1) := by decide +kernel
theorem dX11_count_108 : decode cX11_count 108 = .ok (.aload_n 0, 1) := by decide +kernel
theorem dX11_count_109 : decode cX11_count 109 = .ok (.getfield 10, 3) := by decide +kernel
theorem dX11_count_112 : decode cX11_count 112 = .ok (.getfield 71, 3) := by decide +kernel
theorem dX11_count_115 : decode cX11_count 115 = .ok (.ireturn, 1) := by decide +kernel
theorem dX11_count_116 : decode cX11_count 116 = .ok (.aload_n 0, 1) := by decide +kernel
theorem dX11_count_117 : decode cX11_count 117 = .ok (.getfield 63, 3) := by decide +kernel
theorem dX11_count_120 : decode cX11_count 120 = .ok (.ireturn, 1) := by decide +kernel
theorem dX11_count_121 : decode cX11_count 121 = .ok (.bipush (-102), 2) := by decide +kernel
theorem dX11_count_123 : decode cX11_count 123 = .ok (.ireturn, 1) := by decide +kernel
theorem dX11_digest_0 : decode cX11_digest 0 = .ok (.aload_n 0, 1) := by decide +kernel
theorem dX11_digest_1 : decode cX11_digest 1 = .ok (.ldc2_w 273, 3) := by decide +kernel
theorem dX11_digest_4 : decode cX11_digest 4 = .ok (.invokevirtual 275, 3) := by decide +kernel
theorem dX11_digest_7 : decode cX11_digest 7 = .ok (.lstore_n 1, 1) := by decide +kernel
theorem dX11_digest_8 : decode cX11_digest 8 = .ok (.aload_n 0, 1) := by decide +kernel
theorem dX11_digest_9 : decode cX11_digest 9 = .ok (.lload_n 1, 1) := by decide +kernel
theorem dX11_digest_10 : decode cX11_digest 10 = .ok (.invokevirtual 279, 3) := by decide +kernel
theorem dX11_digest_13 : decode cX11_digest 13 = .ok (.lstore_n 1, 1) := by decide +kernel
theorem dX11_digest_14 : decode cX11_digest 14 = .ok (.aload_n 0, 1) := by decide +kernel
theorem dX11_digest_15 : decode cX11_digest 15 = .ok (.lload_n 1, 1) := by decide +kernel
theorem dX11_digest_16 : decode cX11_digest 16 = .ok (.invokevirtual 282, 3) := by decide +kernel
theorem dX11_digest_19 : decode cX11_digest 19 = .ok (.lstore_n 1, 1) := by decide +kernel
theorem dX11_digest_20 : decode cX11_digest 20 = .ok (.aload_n 0, 1) := by decide +kernel
theorem dX11_digest_21 : decode cX11_digest 21 = .ok (.invokevirtual 166, 3) := by decide +kernel
theorem dX11_digest_24 : decode cX11_digest 24 = .ok (.ifCond .eq 47, 3) := by decide +kernel
theorem dX11_digest_27 : decode cX11_digest 27 = .ok (.lload_n 1, 1) := by decide +kernel
theorem dX11_digest_28 : decode cX11_digest 28 = .ok (.aload_n 0, 1) := by decide +kernel
theorem dX11_digest_29 : decode cX11_digest 29 = .ok (.iconst 0, 1) := by decide +kernel
theorem dX11_digest_30 : decode cX11_digest 30 = .ok (.invokevirtual 285, 3) := by decide +kernel
theorem dX11_digest_33 : decode cX11_digest 33 = .ok (.i2l, 1) := by decide +kernel
theorem dX11_digest_34 : decode cX11_digest 34 = .ok (.invokestatic 288, 3) := by decide +kernel
theorem dX11_digest_37 : decode cX11_digest 37 = .ok (.lstore_n 1, 1) := by decide +kernel
theorem dX11_digest_38 : decode cX11_digest 38 = .ok (.lload_n 1, 1) := by decide +kernel
theorem dX11_digest_39 : decode cX11_digest 39 = .ok (.aload_n 0, 1) := by decide +kernel
theorem dX11_digest_40 : decode cX11_digest 40 = .ok (.iconst 1, 1) := by decide +kernel
theorem dX11_digest_41 : decode cX11_digest 41 = .ok (.invokevirtual 285, 3) := by decide +kernel
theorem dX11_digest_44 : decode cX11_digest 44 = .ok (.i2l, 1) := by decide +kernel
theorem dX11_digest_45 : decode cX11_digest 45 = .ok (.invokestatic 288, 3) := by decide +kernel
theorem dX11_digest_48 : decode cX11_digest 48 = .ok (.lstore_n 1, 1) := by decide +kernel
theorem dX11_digest_49 : decode cX11_digest 49 = .ok (.lload_n 1, 1) := by decide +kernel
theorem dX11_digest_50 : decode cX11_digest 50 = .ok (.aload_n 0, 1) := by decide +kernel
theorem dX11_digest_51 : decode cX11_digest 51 = .ok (.iconst 0, 1) := by decide +kernel
theorem dX11_digest_52 : decode cX11_digest 52 = .ok (.invokevirtual 292, 3) := by decide +kernel
theorem dX11_digest_55 : decode cX11_digest 55 = .ok (.i2l, 1) := by decide +kernel
theorem dX11_digest_56 : decode cX11_digest 56 = .ok (.invokestatic 288, 3) := by decide +kernel
theorem dX11_digest_59 : decode cX11_digest 59 = .ok (.lstore_n 1, 1) := by decide +kernel
theorem dX11_digest_60 : decode cX11_digest 60 = .ok (.lload_n 1, 1) := by decide +kernel
theorem dX11_digest_61 : decode cX11_digest 61 = .ok (.aload_n 0, 1) := by decide +kernel
theorem dX11_digest_62 : decode cX11_digest 62 = .ok (.iconst 1, 1) := by decide +kernel
theorem dX11_digest_63 : decode cX11_digest 63 = .ok (.invokevirtual 292, 3) := by decide +kernel
theorem dX11_digest_66 : decode cX11_digest 66 = .ok (.i2l, 1) := by decide +kernel
theorem dX11_digest_67 : decode cX11_digest 67 = .ok (.invokestatic 288, 3) := by decide +kernel
theorem dX11_digest_70 : decode cX11_digest 70 = .ok (.lstore_n 1, 1) := by decide +kernel
theorem dX11_digest_71 : decode cX11_digest 71 = .ok (.iconst 0, 1) := by decide +kernel
theorem dX11_digest_72 : decode cX11_digest 72 = .ok (.istore_n 3, 1) := by decide +kernel
theorem dX11_digest_73 : decode cX11_digest 73 = .ok (.iload_n 3, 1) := by decide +kernel
theorem dX11_digest_74 : decode cX11_digest 74 = .ok (.aload_n 0, 1) := by decide +kernel
theorem dX11_digest_75 : decode cX11_digest 75 = .ok (.getfield 10, 3) := by decide +kernel
theorem dX11_digest_78 : decode cX11_digest 78 = .ok (.getfield 71, 3) := by decide +kernel
theorem dX11_digest_81 : decode cX11_digest 81 = .ok (.if_icmp .ge 23, 3) := by decide +kernel
theorem dX11_digest_84 : decode cX11_digest 84 = .ok (.lload_n 1, 1) := by decide +kernel
theorem dX11_digest_85 : decode cX11_digest 85 = .ok (.aload_n 0, 1) := by decide +kernel
theorem dX11_digest_86 : decode cX11_digest 86 = .ok (.getfield 10, 3) := by decide +kernel
theorem dX11_digest_89 : decode cX11_digest 89 = .ok (.iload_n 3, 1) := by decide +kernel
theorem dX11_digest_90 : decode cX11_digest 90 = .ok (.invokevirtual 295, 3) := by decide +kernel
theorem dX11_digest_93 : decode cX11_digest 93 = .ok (.i2l, 1) := by decide +kernel
theorem dX11_digest_94 : decode cX11_digest 94 = .ok (.invokestatic 288, 3) := by decide +kernel
theorem dX11_digest_97 : decode cX11_digest 97 = .ok (.lstore_n 1, 1) := by decide +kernel
theorem dX11_digest_98 : decode cX11_digest 98 = .ok (.iinc 3 1, 3) := by decide +kernel
theorem dX11_digest_101 : decode cX11_digest 101 = .ok (.goto (-28), 3) := by decide +kernel
theorem dX11_digest_104 : decode cX11_digest 104 = .ok (.iconst 0, 1) := by decide +kernel
theorem dX11_digest_105 : decode cX11_digest 105 = .ok (.istore_n 3, 1) := by decide +kernel
theorem dX11_digest_106 : decode cX11_digest 106 = .ok (.iload_n 3, 1) := by decide +kernel
theorem dX11_digest_107 : decode cX11_digest 107 = .ok (.bipush 8, 2) := by decide +kernel
theorem dX11_digest_109 : decode cX11_digest 109 = .ok (.if_icmp .gt 20, 3) := by decide +kernel
theorem dX11_digest_112 : decode cX11_digest 112 = .ok (.lload_n 1, 1) := by decide +kernel
theorem dX11_digest_113 : decode cX11_digest 113 = .ok (.aload_n 0, 1) := by decide +kernel
theorem dX11_digest_114 : decode cX11_digest 114 = .ok (.iload_n 3, 1) := by decide +kernel
theorem dX11_digest_115 : decode cX11_digest 115 = .ok (.invokevirtual 298, 3) := by decide +kernel
theorem dX11_digest_118 : decode cX11_digest 118 = .ok (.i2l, 1) := by decide +kernel
theorem dX11_digest_119 : decode cX11_digest 119 = .ok (.invokestatic 288, 3) := by decide +kernel
theorem dX11_digest_122 : decode cX11_digest 122 = .ok (.lstore_n 1, 1) := by decide +kernel
theorem dX11_digest_123 : decode cX11_digest 123 = .ok (.iinc 3 1, 3) := by decide +kernel
theorem dX11_digest_126 : decode cX11_digest 126 = .ok (.goto (-20), 3) := by decide +kernel
theorem dX11_digest_129 : decode cX11_digest 129 = .ok (.lload_n 1, 1) := by decide +kernel
theorem dX11_digest_130 : decode cX11_digest 130 = .ok (.lreturn, 1) := by decide +kernel
theorem dX11_fold_0 : decode cX11_fold 0 = .ok (.ldc2_w 301, 3) := by decide +kernel
theorem dX11_fold_3 : decode cX11_fold 3 = .ok (.lload_n 0, 1) := by decide +kernel
theorem dX11_fold_4 : decode cX11_fold 4 = .ok (.lmul, 1) := by decide +kernel
theorem dX11_fold_5 : decode cX11_fold 5 = .ok (.lload_n 2, 1) := by decide +kernel
theorem dX11_fold_6 : decode cX11_fold 6 = .ok (.ladd, 1) := by decide +kernel
theorem dX11_fold_7 : decode cX11_fold 7 = .ok (.lreturn, 1) := by decide +kernel
theorem dX11_foldFeuds_0 : decode cX11_foldFeuds 0 = .ok (.lload_n 1, 1) := by decide +kernel
theorem dX11_foldFeuds_1 : decode cX11_foldFeuds 1 = .ok (.lstore_n 3, 1) := by decide +kernel
theorem dX11_foldFeuds_2 : decode cX11_foldFeuds 2 = .ok (.iconst 0, 1) := by decide +kernel
theorem dX11_foldFeuds_3 : decode cX11_foldFeuds 3 = .ok (.istore 5, 2) := by decide +kernel
theorem dX11_foldFeuds_5 : decode cX11_foldFeuds 5 = .ok (.iload 5, 2) := by decide +kernel
theorem dX11_foldFeuds_7 : decode cX11_foldFeuds 7 = .ok (.aload_n 0, 1) := by decide +kernel
theorem dX11_foldFeuds_8 : decode cX11_foldFeuds 8 = .ok (.getfield 19, 3) := by decide +kernel
theorem dX11_foldFeuds_11 : decode cX11_foldFeuds 11 = .ok (.getfield 95, 3) := by decide +kernel
theorem dX11_foldFeuds_14 : decode cX11_foldFeuds 14 = .ok (.if_icmp .ge 39, 3) := by decide +kernel
theorem dX11_foldFeuds_17 : decode cX11_foldFeuds 17 = .ok (.iconst 0, 1) := by decide +kernel
theorem dX11_foldFeuds_18 : decode cX11_foldFeuds 18 = .ok (.istore 6, 2) := by decide +kernel
theorem dX11_foldFeuds_20 : decode cX11_foldFeuds 20 = .ok (.iload 6, 2) := by decide +kernel
theorem dX11_foldFeuds_22 : decode cX11_foldFeuds 22 = .ok (.bipush 8, 2) := by decide +kernel
theorem dX11_foldFeuds_24 : decode cX11_foldFeuds 24 = .ok (.if_icmp .gt 23, 3) := by decide +kernel
theorem dX11_foldFeuds_27 : decode cX11_foldFeuds 27 = .ok (.lload_n 3, 1) := by decide +kernel
theorem dX11_foldFeuds_28 : decode cX11_foldFeuds 28 = .ok (.aload_n 0, 1) := by decide +kernel
theorem dX11_foldFeuds_29 : decode cX11_foldFeuds 29 = .ok (.iload 5, 2) := by decide +kernel
theorem dX11_foldFeuds_31 : decode cX11_foldFeuds 31 = .ok (.iload 6, 2) := by decide +kernel
theorem dX11_foldFeuds_33 : decode cX11_foldFeuds 33 = .ok (.invokevirtual 303, 3) := by decide +kernel
theorem dX11_foldFeuds_36 : decode cX11_foldFeuds 36 = .ok (.i2l, 1) := by decide +kernel
theorem dX11_foldFeuds_37 : decode cX11_foldFeuds 37 = .ok (.invokestatic 288, 3) := by decide +kernel
theorem dX11_foldFeuds_40 : decode cX11_foldFeuds 40 = .ok (.lstore_n 3, 1) := by decide +kernel
theorem dX11_foldFeuds_41 : decode cX11_foldFeuds 41 = .ok (.iinc 6 1, 3) := by decide +kernel
theorem dX11_foldFeuds_44 : decode cX11_foldFeuds 44 = .ok (.goto (-24), 3) := by decide +kernel
theorem dX11_foldFeuds_47 : decode cX11_foldFeuds 47 = .ok (.iinc 5 1, 3) := by decide +kernel
theorem dX11_foldFeuds_50 : decode cX11_foldFeuds 50 = .ok (.goto (-45), 3) := by decide +kernel
theorem dX11_foldFeuds_53 : decode cX11_foldFeuds 53 = .ok (.lload_n 3, 1) := by decide +kernel
theorem dX11_foldFeuds_54 : decode cX11_foldFeuds 54 = .ok (.lreturn, 1) := by decide +kernel
theorem dX11_foldPeople_0 : decode cX11_foldPeople 0 = .ok (.lload_n 1, 1) := by decide +kernel
theorem dX11_foldPeople_1 : decode cX11_foldPeople 1 = .ok (.lstore_n 3, 1) := by decide +kernel
theorem dX11_foldPeople_2 : decode cX11_foldPeople 2 = .ok (.iconst 0, 1) := by decide +kernel
theorem dX11_foldPeople_3 : decode cX11_foldPeople 3 = .ok (.istore 5, 2) := by decide +kernel
theorem dX11_foldPeople_5 : decode cX11_foldPeople 5 = .ok (.iload 5, 2) := by decide +kernel
theorem dX11_foldPeople_7 : decode cX11_foldPeople 7 = .ok (.bipush 6, 2) := by decide +kernel
theorem dX11_foldPeople_9 : decode cX11_foldPeople 9 = .ok (.if_icmp .ge 38, 3) := by decide +kernel
theorem dX11_foldPeople_12 : decode cX11_foldPeople 12 = .ok (.iconst 0, 1) := by decide +kernel
theorem dX11_foldPeople_13 : decode cX11_foldPeople 13 = .ok (.istore 6, 2) := by decide +kernel
theorem dX11_foldPeople_15 : decode cX11_foldPeople 15 = .ok (.iload 6, 2) := by decide +kernel
theorem dX11_foldPeople_17 : decode cX11_foldPeople 17 = .ok (.iconst 5, 1) := by decide +kernel
theorem dX11_foldPeople_18 : decode cX11_foldPeople 18 = .ok (.if_icmp .gt 23, 3) := by decide +kernel
theorem dX11_foldPeople_21 : decode cX11_foldPeople 21 = .ok (.lload_n 3, 1) := by decide +kernel
theorem dX11_foldPeople_22 : decode cX11_foldPeople 22 = .ok (.aload_n 0, 1) := by decide +kernel
theorem dX11_foldPeople_23 : decode cX11_foldPeople 23 = .ok (.iload 5, 2) := by decide +kernel
theorem dX11_foldPeople_25 : decode cX11_foldPeople 25 = .ok (.iload 6, 2) := by decide +kernel
theorem dX11_foldPeople_27 : decode cX11_foldPeople 27 = .ok (.invokevirtual 306, 3) := by decide +kernel
theorem dX11_foldPeople_30 : decode cX11_foldPeople 30 = .ok (.i2l, 1) := by decide +kernel
theorem dX11_foldPeople_31 : decode cX11_foldPeople 31 = .ok (.invokestatic 288, 3) := by decide +kernel
theorem dX11_foldPeople_34 : decode cX11_foldPeople 34 = .ok (.lstore_n 3, 1) := by decide +kernel
theorem dX11_foldPeople_35 : decode cX11_foldPeople 35 = .ok (.iinc 6 1, 3) := by decide +kernel
theorem dX11_foldPeople_38 : decode cX11_foldPeople 38 = .ok (.goto (-23), 3) := by decide +kernel
theorem dX11_foldPeople_41 : decode cX11_foldPeople 41 = .ok (.iinc 5 1, 3) := by decide +kernel
theorem dX11_foldPeople_44 : decode cX11_foldPeople 44 = .ok (.goto (-39), 3) := by decide +kernel
theorem dX11_foldPeople_47 : decode cX11_foldPeople 47 = .ok (.lload_n 3, 1) := by decide +kernel
theorem dX11_foldPeople_48 : decode cX11_foldPeople 48 = .ok (.lreturn, 1) := by decide +kernel
theorem dX11_foldHarming_0 : decode cX11_foldHarming 0 = .ok (.lload_n 1, 1) := by decide +kernel
theorem dX11_foldHarming_1 : decode cX11_foldHarming 1 = .ok (.lstore_n 3, 1) := by decide +kernel
theorem dX11_foldHarming_2 : decode cX11_foldHarming 2 = .ok (.iconst 0, 1) := by decide +kernel
theorem dX11_foldHarming_3 : decode cX11_foldHarming 3 = .ok (.istore 5, 2) := by decide +kernel
theorem dX11_foldHarming_5 : decode cX11_foldHarming 5 = .ok (.iload 5, 2) := by decide +kernel
theorem dX11_foldHarming_7 : decode cX11_foldHarming 7 = .ok (.bipush 6, 2) := by decide +kernel
theorem dX11_foldHarming_9 : decode cX11_foldHarming 9 = .ok (.if_icmp .ge 46, 3) := by decide +kernel
theorem dX11_foldHarming_12 : decode cX11_foldHarming 12 = .ok (.iconst 0, 1) := by decide +kernel
theorem dX11_foldHarming_13 : decode cX11_foldHarming 13 = .ok (.istore 6, 2) := by decide +kernel
theorem dX11_foldHarming_15 : decode cX11_foldHarming 15 = .ok (.iload 6, 2) := by decide +kernel
theorem dX11_foldHarming_17 : decode cX11_foldHarming 17 = .ok (.bipush 6, 2) := by decide +kernel
theorem dX11_foldHarming_19 : decode cX11_foldHarming 19 = .ok (.if_icmp .ge 30, 3) := by decide +kernel
theorem dX11_foldHarming_22 : decode cX11_foldHarming 22 = .ok (.iload 5, 2) := by decide +kernel
theorem dX11_foldHarming_24 : decode cX11_foldHarming 24 = .ok (.iload 6, 2) := by decide +kernel
theorem dX11_foldHarming_26 : decode cX11_foldHarming 26 = .ok (.if_icmp .eq 17, 3) := by decide +kernel
theorem dX11_foldHarming_29 : decode cX11_foldHarming 29 = .ok (.lload_n 3, 1) := by decide +kernel
theorem dX11_foldHarming_30 : decode cX11_foldHarming 30 = .ok (.aload_n 0, 1) := by decide +kernel
theorem dX11_foldHarming_31 : decode cX11_foldHarming 31 = .ok (.iload 5, 2) := by decide +kernel
theorem dX11_foldHarming_33 : decode cX11_foldHarming 33 = .ok (.iload 6, 2) := by decide +kernel
theorem dX11_foldHarming_35 : decode cX11_foldHarming 35 = .ok (.invokevirtual 309, 3) := by decide +kernel
theorem dX11_foldHarming_38 : decode cX11_foldHarming 38 = .ok (.i2l, 1) := by decide +kernel
theorem dX11_foldHarming_39 : decode cX11_foldHarming 39 = .ok (.invokestatic 288, 3) := by decide +kernel
theorem dX11_foldHarming_42 : decode cX11_foldHarming 42 = .ok (.lstore_n 3, 1) := by decide +kernel
theorem dX11_foldHarming_43 : decode cX11_foldHarming 43 = .ok (.iinc 6 1, 3) := by decide +kernel
theorem dX11_foldHarming_46 : decode cX11_foldHarming 46 = .ok (.goto (-31), 3) := by decide +kernel
theorem dX11_foldHarming_49 : decode cX11_foldHarming 49 = .ok (.iinc 5 1, 3) := by decide +kernel
theorem dX11_foldHarming_52 : decode cX11_foldHarming 52 = .ok (.goto (-47), 3) := by decide +kernel
theorem dX11_foldHarming_55 : decode cX11_foldHarming 55 = .ok (.lload_n 3, 1) := by decide +kernel
theorem dX11_foldHarming_56 : decode cX11_foldHarming 56 = .ok (.lreturn, 1) := by decide +kernel
theorem dX11_hasList_0 : decode cX11_hasList 0 = .ok (.aload_n 0, 1) := by decide +kernel
theorem dX11_hasList_1 : decode cX11_hasList 1 = .ok (.getfield 19, 3) := by decide +kernel
theorem dX11_hasList_4 : decode cX11_hasList 4 = .ok (.getfield 95, 3) := by decide +kernel
theorem dX11_hasList_7 : decode cX11_hasList 7 = .ok (.ifCond .le 7, 3) := by decide +kernel
theorem dX11_hasList_10 : decode cX11_hasList 10 = .ok (.iconst 1, 1) := by decide +kernel
theorem dX11_hasList_11 : decode cX11_hasList 11 = .ok (.goto 4, 3) := by decide +kernel
theorem dX11_hasList_14 : decode cX11_hasList 14 = .ok (.iconst 0, 1) := by decide +kernel
theorem dX11_hasList_15 : decode cX11_hasList 15 = .ok (.ireturn, 1) := by decide +kernel
theorem dX11_isFeud_0 : decode cX11_isFeud 0 = .ok (.iload_n 1, 1) := by decide +kernel
theorem dX11_isFeud_1 : decode cX11_isFeud 1 = .ok (.ifCond .lt 18, 3) := by decide +kernel
theorem dX11_isFeud_4 : decode cX11_isFeud 4 = .ok (.iload_n 1, 1) := by decide +kernel
theorem dX11_isFeud_5 : decode cX11_isFeud 5 = .ok (.aload_n 0, 1) := by decide +kernel
theorem dX11_isFeud_6 : decode cX11_isFeud 6 = .ok (.getfield 19, 3) := by decide +kernel
theorem dX11_isFeud_9 : decode cX11_isFeud 9 = .ok (.getfield 95, 3) := by decide +kernel
theorem dX11_isFeud_12 : decode cX11_isFeud 12 = .ok (.if_icmp .ge 7, 3) := by decide +kernel
theorem dX11_isFeud_15 : decode cX11_isFeud 15 = .ok (.iconst 1, 1) := by decide +kernel
theorem dX11_isFeud_16 : decode cX11_isFeud 16 = .ok (.goto 4, 3) := by decide +kernel
theorem dX11_isFeud_19 : decode cX11_isFeud 19 = .ok (.iconst 0, 1) := by decide +kernel
theorem dX11_isFeud_20 : decode cX11_isFeud 20 = .ok (.ireturn, 1) := by decide +kernel
theorem dX11_isPerson_0 : decode cX11_isPerson 0 = .ok (.iload_n 0, 1) := by decide +kernel
theorem dX11_isPerson_1 : decode cX11_isPerson 1 = .ok (.ifCond .lt 13, 3) := by decide +kernel
theorem dX11_isPerson_4 : decode cX11_isPerson 4 = .ok (.iload_n 0, 1) := by decide +kernel
theorem dX11_isPerson_5 : decode cX11_isPerson 5 = .ok (.bipush 6, 2) := by decide +kernel
theorem dX11_isPerson_7 : decode cX11_isPerson 7 = .ok (.if_icmp .ge 7, 3) := by decide +kernel
theorem dX11_isPerson_10 : decode cX11_isPerson 10 = .ok (.iconst 1, 1) := by decide +kernel
theorem dX11_isPerson_11 : decode cX11_isPerson 11 = .ok (.goto 4, 3) := by decide +kernel
theorem dX11_isPerson_14 : decode cX11_isPerson 14 = .ok (.iconst 0, 1) := by decide +kernel
theorem dX11_isPerson_15 : decode cX11_isPerson 15 = .ok (.ireturn, 1) := by decide +kernel
theorem dX11_areTwo_0 : decode cX11_areTwo 0 = .ok (.iload_n 0, 1) := by decide +kernel
theorem dX11_areTwo_1 : decode cX11_areTwo 1 = .ok (.invokestatic 131, 3) := by decide +kernel
theorem dX11_areTwo_4 : decode cX11_areTwo 4 = .ok (.ifCond .eq 19, 3) := by decide +kernel
theorem dX11_areTwo_7 : decode cX11_areTwo 7 = .ok (.iload_n 1, 1) := by decide +kernel
theorem dX11_areTwo_8 : decode cX11_areTwo 8 = .ok (.invokestatic 131, 3) := by decide +kernel
theorem dX11_areTwo_11 : decode cX11_areTwo 11 = .ok (.ifCond .eq 12, 3) := by decide +kernel
theorem dX11_areTwo_14 : decode cX11_areTwo 14 = .ok (.iload_n 0, 1) := by decide +kernel
theorem dX11_areTwo_15 : decode cX11_areTwo 15 = .ok (.iload_n 1, 1) := by decide +kernel
theorem dX11_areTwo_16 : decode cX11_areTwo 16 = .ok (.if_icmp .eq 7, 3) := by decide +kernel
theorem dX11_areTwo_19 : decode cX11_areTwo 19 = .ok (.iconst 1, 1) := by decide +kernel
theorem dX11_areTwo_20 : decode cX11_areTwo 20 = .ok (.goto 4, 3) := by decide +kernel
theorem dX11_areTwo_23 : decode cX11_areTwo 23 = .ok (.iconst 0, 1) := by decide +kernel
theorem dX11_areTwo_24 : decode cX11_areTwo 24 = .ok (.ireturn, 1) := by decide +kernel
theorem dX11_isBit_0 : decode cX11_isBit 0 = .ok (.iload_n 0, 1) := by decide +kernel
theorem dX11_isBit_1 : decode cX11_isBit 1 = .ok (.ifCond .eq 8, 3) := by decide +kernel
theorem dX11_isBit_4 : decode cX11_isBit 4 = .ok (.iload_n 0, 1) := by decide +kernel
theorem dX11_isBit_5 : decode cX11_isBit 5 = .ok (.iconst 1, 1) := by decide +kernel
theorem dX11_isBit_6 : decode cX11_isBit 6 = .ok (.if_icmp .ne 7, 3) := by decide +kernel
theorem dX11_isBit_9 : decode cX11_isBit 9 = .ok (.iconst 1, 1) := by decide +kernel
theorem dX11_isBit_10 : decode cX11_isBit 10 = .ok (.goto 4, 3) := by decide +kernel
theorem dX11_isBit_13 : decode cX11_isBit 13 = .ok (.iconst 0, 1) := by decide +kernel
theorem dX11_isBit_14 : decode cX11_isBit 14 = .ok (.ireturn, 1) := by decide +kernel
theorem dX11_isOfKind_0 : decode cX11_isOfKind 0 = .ok (.iload_n 1, 1) := by decide +kernel
theorem dX11_isOfKind_1 : decode cX11_isOfKind 1 = .ok (.tableswitch 57 0 4 #[35, 37, 42, 47, 52], 35) := by decide +kernel
theorem dX11_isOfKind_36 : decode cX11_isOfKind 36 = .ok (.iconst 1, 1) := by decide +kernel
theorem dX11_isOfKind_37 : decode cX11_isOfKind 37 = .ok (.ireturn, 1) := by decide +kernel
theorem dX11_isOfKind_38 : decode cX11_isOfKind 38 = .ok (.aload_n 0, 1) := by decide +kernel
theorem dX11_isOfKind_39 : decode cX11_isOfKind 39 = .ok (.instanceof 312, 3) := by decide +kernel
theorem dX11_isOfKind_42 : decode cX11_isOfKind 42 = .ok (.ireturn, 1) := by decide +kernel
theorem dX11_isOfKind_43 : decode cX11_isOfKind 43 = .ok (.aload_n 0, 1) := by decide +kernel
theorem dX11_isOfKind_44 : decode cX11_isOfKind 44 = .ok (.instanceof 314, 3) := by decide +kernel
theorem dX11_isOfKind_47 : decode cX11_isOfKind 47 = .ok (.ireturn, 1) := by decide +kernel
theorem dX11_isOfKind_48 : decode cX11_isOfKind 48 = .ok (.aload_n 0, 1) := by decide +kernel
theorem dX11_isOfKind_49 : decode cX11_isOfKind 49 = .ok (.instanceof 316, 3) := by decide +kernel
theorem dX11_isOfKind_52 : decode cX11_isOfKind 52 = .ok (.ireturn, 1) := by decide +kernel
theorem dX11_isOfKind_53 : decode cX11_isOfKind 53 = .ok (.aload_n 0, 1) := by decide +kernel
theorem dX11_isOfKind_54 : decode cX11_isOfKind 54 = .ok (.instanceof 318, 3) := by decide +kernel
theorem dX11_isOfKind_57 : decode cX11_isOfKind 57 = .ok (.ireturn, 1) := by decide +kernel
theorem dX11_isOfKind_58 : decode cX11_isOfKind 58 = .ok (.iconst 0, 1) := by decide +kernel
theorem dX11_isOfKind_59 : decode cX11_isOfKind 59 = .ok (.ireturn, 1) := by decide +kernel
theorem dX11_times_0 : decode cX11_times 0 = .ok (.iconst 0, 1) := by decide +kernel
theorem dX11_times_1 : decode cX11_times 1 = .ok (.istore_n 3, 1) := by decide +kernel
theorem dX11_times_2 : decode cX11_times 2 = .ok (.iconst 0, 1) := by decide +kernel
theorem dX11_times_3 : decode cX11_times 3 = .ok (.istore 4, 2) := by decide +kernel
theorem dX11_times_5 : decode cX11_times 5 = .ok (.iload 4, 2) := by decide +kernel
theorem dX11_times_7 : decode cX11_times 7 = .ok (.iload_n 1, 1) := by decide +kernel
theorem dX11_times_8 : decode cX11_times 8 = .ok (.if_icmp .ge 27, 3) := by decide +kernel
theorem dX11_times_11 : decode cX11_times 11 = .ok (.iload 4, 2) := by decide +kernel
theorem dX11_times_13 : decode cX11_times 13 = .ok (.aload_n 0, 1) := by decide +kernel
theorem dX11_times_14 : decode cX11_times 14 = .ok (.arraylength, 1) := by decide +kernel
theorem dX11_times_15 : decode cX11_times 15 = .ok (.if_icmp .ge 20, 3) := by decide +kernel
theorem dX11_times_18 : decode cX11_times 18 = .ok (.aload_n 0, 1) := by decide +kernel
theorem dX11_times_19 : decode cX11_times 19 = .ok (.iload 4, 2) := by decide +kernel
theorem dX11_times_21 : decode cX11_times 21 = .ok (.iaload, 1) := by decide +kernel
theorem dX11_times_22 : decode cX11_times 22 = .ok (.iload_n 2, 1) := by decide +kernel
theorem dX11_times_23 : decode cX11_times 23 = .ok (.if_icmp .ne 6, 3) := by decide +kernel
theorem dX11_times_26 : decode cX11_times 26 = .ok (.iinc 3 1, 3) := by decide +kernel
theorem dX11_times_29 : decode cX11_times 29 = .ok (.iinc 4 1, 3) := by decide +kernel
theorem dX11_times_32 : decode cX11_times 32 = .ok (.goto (-27), 3) := by decide +kernel
theorem dX11_times_35 : decode cX11_times 35 = .ok (.iload_n 3, 1) := by decide +kernel
theorem dX11_times_36 : decode cX11_times 36 = .ok (.ireturn, 1) := by decide +kernel
theorem dX11_cheaper_0 : decode cX11_cheaper 0 = .ok (.iload_n 0, 1) := by decide +kernel
theorem dX11_cheaper_1 : decode cX11_cheaper 1 = .ok (.iconst (-1), 1) := by decide +kernel
theorem dX11_cheaper_2 : decode cX11_cheaper 2 = .ok (.if_icmp .ne 5, 3) := by decide +kernel
theorem dX11_cheaper_5 : decode cX11_cheaper 5 = .ok (.iload_n 1, 1) := by decide +kernel
theorem dX11_cheaper_6 : decode cX11_cheaper 6 = .ok (.ireturn, 1) := by decide +kernel
theorem dX11_cheaper_7 : decode cX11_cheaper 7 = .ok (.iload_n 1, 1) := by decide +kernel
theorem dX11_cheaper_8 : decode cX11_cheaper 8 = .ok (.iconst (-1), 1) := by decide +kernel
theorem dX11_cheaper_9 : decode cX11_cheaper 9 = .ok (.if_icmp .ne 7, 3) := by decide +kernel
theorem dX11_cheaper_12 : decode cX11_cheaper 12 = .ok (.iload_n 0, 1) := by decide +kernel
theorem dX11_cheaper_13 : decode cX11_cheaper 13 = .ok (.goto 8, 3) := by decide +kernel
theorem dX11_cheaper_16 : decode cX11_cheaper 16 = .ok (.iload_n 0, 1) := by decide +kernel
theorem dX11_cheaper_17 : decode cX11_cheaper 17 = .ok (.iload_n 1, 1) := by decide +kernel
theorem dX11_cheaper_18 : decode cX11_cheaper 18 = .ok (.invokestatic 320, 3) := by decide +kernel
theorem dX11_cheaper_21 : decode cX11_cheaper 21 = .ok (.ireturn, 1) := by decide +kernel
theorem dX11_costOfFeud_0 : decode cX11_costOfFeud 0 = .ok (.aload_n 0, 1) := by decide +kernel
theorem dX11_costOfFeud_1 : decode cX11_costOfFeud 1 = .ok (.getfield 35, 3) := by decide +kernel
theorem dX11_costOfFeud_4 : decode cX11_costOfFeud 4 = .ok (.aload_n 0, 1) := by decide +kernel
theorem dX11_costOfFeud_5 : decode cX11_costOfFeud 5 = .ok (.getfield 28, 3) := by decide +kernel
theorem dX11_costOfFeud_8 : decode cX11_costOfFeud 8 = .ok (.invokevirtual 228, 3) := by decide +kernel
theorem dX11_costOfFeud_11 : decode cX11_costOfFeud 11 = .ok (.aload_n 0, 1) := by decide +kernel
theorem dX11_costOfFeud_12 : decode cX11_costOfFeud 12 = .ok (.getfield 35, 3) := by decide +kernel
theorem dX11_costOfFeud_15 : decode cX11_costOfFeud 15 = .ok (.iload_n 2, 1) := by decide +kernel
theorem dX11_costOfFeud_16 : decode cX11_costOfFeud 16 = .ok (.iload_n 1, 1) := by decide +kernel
theorem dX11_costOfFeud_17 : decode cX11_costOfFeud 17 = .ok (.iconst 0, 1) := by decide +kernel
theorem dX11_costOfFeud_18 : decode cX11_costOfFeud 18 = .ok (.invokevirtual 325, 3) := by decide +kernel
theorem dX11_costOfFeud_21 : decode cX11_costOfFeud 21 = .ok (.istore 4, 2) := by decide +kernel
theorem dX11_costOfFeud_23 : decode cX11_costOfFeud 23 = .ok (.iload 4, 2) := by decide +kernel
theorem dX11_costOfFeud_25 : decode cX11_costOfFeud 25 = .ok (.iconst (-1), 1) := by decide +kernel
theorem dX11_costOfFeud_26 : decode cX11_costOfFeud 26 = .ok (.if_icmp .ne 5, 3) := by decide +kernel
theorem dX11_costOfFeud_29 : decode cX11_costOfFeud 29 = .ok (.iconst (-1), 1) := by decide +kernel
theorem dX11_costOfFeud_30 : decode cX11_costOfFeud 30 = .ok (.ireturn, 1) := by decide +kernel
theorem dX11_costOfFeud_31 : decode cX11_costOfFeud 31 = .ok (.aload_n 0, 1) := by decide +kernel
theorem dX11_costOfFeud_32 : decode cX11_costOfFeud 32 = .ok (.getfield 35, 3) := by decide +kernel
theorem dX11_costOfFeud_35 : decode cX11_costOfFeud 35 = .ok (.iload_n 3, 1) := by decide +kernel
theorem dX11_costOfFeud_36 : decode cX11_costOfFeud 36 = .ok (.iload_n 1, 1) := by decide +kernel
theorem dX11_costOfFeud_37 : decode cX11_costOfFeud 37 = .ok (.iconst 1, 1) := by decide +kernel
theorem dX11_costOfFeud_38 : decode cX11_costOfFeud 38 = .ok (.invokevirtual 325, 3) := by decide +kernel
theorem dX11_costOfFeud_41 : decode cX11_costOfFeud 41 = .ok (.istore 5, 2) := by decide +kernel
theorem dX11_costOfFeud_43 : decode cX11_costOfFeud 43 = .ok (.iload 5, 2) := by decide +kernel
theorem dX11_costOfFeud_45 : decode cX11_costOfFeud 45 = .ok (.iconst (-1), 1) := by decide +kernel
theorem dX11_costOfFeud_46 : decode cX11_costOfFeud 46 = .ok (.if_icmp .ne 7, 3) := by decide +kernel
theorem dX11_costOfFeud_49 : decode cX11_costOfFeud 49 = .ok (.iconst (-1), 1) := by decide +kernel
theorem dX11_costOfFeud_50 : decode cX11_costOfFeud 50 = .ok (.goto 8, 3) := by decide +kernel
theorem dX11_costOfFeud_53 : decode cX11_costOfFeud 53 = .ok (.iload 4, 2) := by decide +kernel
theorem dX11_costOfFeud_55 : decode cX11_costOfFeud 55 = .ok (.iload 5, 2) := by decide +kernel
theorem dX11_costOfFeud_57 : decode cX11_costOfFeud 57 = .ok (.iadd, 1) := by decide +kernel
theorem dX11_costOfFeud_58 : decode cX11_costOfFeud 58 = .ok (.ireturn, 1) := by decide +kernel
theorem dX11_liveYear_0 : decode cX11_liveYear 0 = .ok (.aload_n 0, 1) := by decide +kernel
theorem dX11_liveYear_1 : decode cX11_liveYear 1 = .ok (.getfield 55, 3) := by decide +kernel
theorem dX11_liveYear_4 : decode cX11_liveYear 4 = .ok (.bipush 6, 2) := by decide +kernel
theorem dX11_liveYear_6 : decode cX11_liveYear 6 = .ok (.invokevirtual 328, 3) := by decide +kernel
theorem dX11_liveYear_9 : decode cX11_liveYear 9 = .ok (.istore_n 1, 1) := by decide +kernel
theorem dX11_liveYear_10 : decode cX11_liveYear 10 = .ok (.aload_n 0, 1) := by decide +kernel
theorem dX11_liveYear_11 : decode cX11_liveYear 11 = .ok (.getfield 55, 3) := by decide +kernel
theorem dX11_liveYear_14 : decode cX11_liveYear 14 = .ok (.aload_n 0, 1) := by decide +kernel
theorem dX11_liveYear_15 : decode cX11_liveYear 15 = .ok (.getfield 19, 3) := by decide +kernel
theorem dX11_liveYear_18 : decode cX11_liveYear 18 = .ok (.getfield 95, 3) := by decide +kernel
theorem dX11_liveYear_21 : decode cX11_liveYear 21 = .ok (.invokevirtual 328, 3) := by decide +kernel
theorem dX11_liveYear_24 : decode cX11_liveYear 24 = .ok (.istore_n 2, 1) := by decide +kernel
theorem dX11_liveYear_25 : decode cX11_liveYear 25 = .ok (.aload_n 0, 1) := by decide +kernel
theorem dX11_liveYear_26 : decode cX11_liveYear 26 = .ok (.getfield 55, 3) := by decide +kernel
theorem dX11_liveYear_29 : decode cX11_liveYear 29 = .ok (.iconst 2, 1) := by decide +kernel
theorem dX11_liveYear_30 : decode cX11_liveYear 30 = .ok (.invokevirtual 328, 3) := by decide +kernel
theorem dX11_liveYear_33 : decode cX11_liveYear 33 = .ok (.istore_n 3, 1) := by decide +kernel
theorem dX11_liveYear_34 : decode cX11_liveYear 34 = .ok (.aload_n 0, 1) := by decide +kernel
theorem dX11_liveYear_35 : decode cX11_liveYear 35 = .ok (.getfield 35, 3) := by decide +kernel
theorem dX11_liveYear_38 : decode cX11_liveYear 38 = .ok (.iload_n 1, 1) := by decide +kernel
theorem dX11_liveYear_39 : decode cX11_liveYear 39 = .ok (.iload_n 2, 1) := by decide +kernel
theorem dX11_liveYear_40 : decode cX11_liveYear 40 = .ok (.iload_n 3, 1) := by decide +kernel
theorem dX11_liveYear_41 : decode cX11_liveYear 41 = .ok (.invokevirtual 172, 3) := by decide +kernel
theorem dX11_liveYear_44 : decode cX11_liveYear 44 = .ok (.ifCond .eq 14, 3) := by decide +kernel
theorem dX11_liveYear_47 : decode cX11_liveYear 47 = .ok (.aload_n 0, 1) := by decide +kernel
theorem dX11_liveYear_48 : decode cX11_liveYear 48 = .ok (.getfield 35, 3) := by decide +kernel
theorem dX11_liveYear_51 : decode cX11_liveYear 51 = .ok (.iload_n 1, 1) := by decide +kernel
theorem dX11_liveYear_52 : decode cX11_liveYear 52 = .ok (.iload_n 2, 1) := by decide +kernel
theorem dX11_liveYear_53 : decode cX11_liveYear 53 = .ok (.iload_n 3, 1) := by decide +kernel
theorem dX11_liveYear_54 : decode cX11_liveYear 54 = .ok (.invokevirtual 176, 3) := by decide +kernel
theorem dX11_liveYear_57 : decode cX11_liveYear 57 = .ok (.pop, 1) := by decide +kernel
theorem dX11_liveYear_58 : decode cX11_liveYear 58 = .ok (.aload_n 0, 1) := by decide +kernel
theorem dX11_liveYear_59 : decode cX11_liveYear 59 = .ok (.getfield 55, 3) := by decide +kernel
theorem dX11_liveYear_62 : decode cX11_liveYear 62 = .ok (.bipush 6, 2) := by decide +kernel
theorem dX11_liveYear_64 : decode cX11_liveYear 64 = .ok (.invokevirtual 328, 3) := by decide +kernel
theorem dX11_liveYear_67 : decode cX11_liveYear 67 = .ok (.istore 4, 2) := by decide +kernel
theorem dX11_liveYear_69 : decode cX11_liveYear 69 = .ok (.aload_n 0, 1) := by decide +kernel
theorem dX11_liveYear_70 : decode cX11_liveYear 70 = .ok (.getfield 35, 3) := by decide +kernel
theorem dX11_liveYear_73 : decode cX11_liveYear 73 = .ok (.getfield 141, 3) := by decide +kernel
theorem dX11_liveYear_76 : decode cX11_liveYear 76 = .ok (.iload 4, 2) := by decide +kernel
theorem dX11_liveYear_78 : decode cX11_liveYear 78 = .ok (.baload, 1) := by decide +kernel
theorem dX11_liveYear_79 : decode cX11_liveYear 79 = .ok (.ifCond .eq 24, 3) := by decide +kernel
theorem dX11_liveYear_82 : decode cX11_liveYear 82 = .ok (.aload_n 0, 1) := by decide +kernel
theorem dX11_liveYear_83 : decode cX11_liveYear 83 = .ok (.getfield 55, 3) := by decide +kernel
theorem dX11_liveYear_86 : decode cX11_liveYear 86 = .ok (.iconst 4, 1) := by decide +kernel
theorem dX11_liveYear_87 : decode cX11_liveYear 87 = .ok (.invokevirtual 328, 3) := by decide +kernel
theorem dX11_liveYear_90 : decode cX11_liveYear 90 = .ok (.ifCond .ne 13, 3) := by decide +kernel
theorem dX11_liveYear_93 : decode cX11_liveYear 93 = .ok (.aload_n 0, 1) := by decide +kernel
theorem dX11_liveYear_94 : decode cX11_liveYear 94 = .ok (.getfield 35, 3) := by decide +kernel
theorem dX11_liveYear_97 : decode cX11_liveYear 97 = .ok (.iload 4, 2) := by decide +kernel
theorem dX11_liveYear_99 : decode cX11_liveYear 99 = .ok (.invokevirtual 196, 3) := by decide +kernel
theorem dX11_liveYear_102 : decode cX11_liveYear 102 = .ok (.pop, 1) := by decide +kernel
theorem dX11_liveYear_103 : decode cX11_liveYear 103 = .ok (.aload_n 0, 1) := by decide +kernel
theorem dX11_liveYear_104 : decode cX11_liveYear 104 = .ok (.getfield 35, 3) := by decide +kernel
theorem dX11_liveYear_107 : decode cX11_liveYear 107 = .ok (.invokevirtual 209, 3) := by decide +kernel
theorem dX11_liveYear_110 : decode cX11_liveYear 110 = .ok (.pop, 1) := by decide +kernel
theorem dX11_liveYear_111 : decode cX11_liveYear 111 = .ok (.return_, 1) := by decide +kernel
theorem dX12_init_0 : decode cX12_init 0 = .ok (.aload_n 0, 1) := by decide +kernel
theorem dX12_init_1 : decode cX12_init 1 = .ok (.invokespecial 1, 3) := by decide +kernel
theorem dX12_init_4 : decode cX12_init 4 = .ok (.aload_n 0, 1) := by decide +kernel
theorem dX12_init_5 : decode cX12_init 5 = .ok (.bipush 40, 2) := by decide +kernel
theorem dX12_init_7 : decode cX12_init 7 = .ok (.newarray .int, 2) := by decide +kernel
theorem dX12_init_9 : decode cX12_init 9 = .ok (.putfield 7, 3) := by decide +kernel
theorem dX12_init_12 : decode cX12_init 12 = .ok (.aload_n 0, 1) := by decide +kernel
theorem dX12_init_13 : decode cX12_init 13 = .ok (.bipush 32, 2) := by decide +kernel
theorem dX12_init_15 : decode cX12_init 15 = .ok (.newarray .int, 2) := by decide +kernel
theorem dX12_init_17 : decode cX12_init 17 = .ok (.putfield 13, 3) := by decide +kernel
theorem dX12_init_20 : decode cX12_init 20 = .ok (.aload_n 0, 1) := by decide +kernel
theorem dX12_init_21 : decode cX12_init 21 = .ok (.bipush 56, 2) := by decide +kernel
theorem dX12_init_23 : decode cX12_init 23 = .ok (.newarray .int, 2) := by decide +kernel
theorem dX12_init_25 : decode cX12_init 25 = .ok (.putfield 16, 3) := by decide +kernel
theorem dX12_init_28 : decode cX12_init 28 = .ok (.aload_n 0, 1) := by decide +kernel
theorem dX12_init_29 : decode cX12_init 29 = .ok (.bipush 18, 2) := by decide +kernel
theorem dX12_init_31 : decode cX12_init 31 = .ok (.newarray .int, 2) := by decide +kernel
theorem dX12_init_33 : decode cX12_init 33 = .ok (.putfield 19, 3) := by decide +kernel
theorem dX12_init_36 : decode cX12_init 36 = .ok (.aload_n 0, 1) := by decide +kernel
theorem dX12_init_37 : decode cX12_init 37 = .ok (.bipush 24, 2) := by decide +kernel
theorem dX12_init_39 : decode cX12_init 39 = .ok (.newarray .int, 2) := by decide +kernel
theorem dX12_init_41 : decode cX12_init 41 = .ok (.putfield 22, 3) := by decide +kernel
theorem dX12_init_44 : decode cX12_init 44 = .ok (.aload_n 0, 1) := by decide +kernel
theorem dX12_init_45 : decode cX12_init 45 = .ok (.bipush 56, 2) := by decide +kernel
theorem dX12_init_47 : decode cX12_init 47 = .ok (.newarray .int, 2) := by decide +kernel
theorem dX12_init_49 : decode cX12_init 49 = .ok (.putfield 25, 3) := by decide +kernel
theorem dX12_init_52 : decode cX12_init 52 = .ok (.aload_n 0, 1) := by decide +kernel
theorem dX12_init_53 : decode cX12_init 53 = .ok (.bipush 18, 2) := by decide +kernel
theorem dX12_init_55 : decode cX12_init 55 = .ok (.newarray .int, 2) := by decide +kernel
theorem dX12_init_57 : decode cX12_init 57 = .ok (.putfield 28, 3) := by decide +kernel
theorem dX12_init_60 : decode cX12_init 60 = .ok (.aload_n 0, 1) := by decide +kernel
theorem dX12_init_61 : decode cX12_init 61 = .ok (.bipush 64, 2) := by decide +kernel
theorem dX12_init_63 : decode cX12_init 63 = .ok (.newarray .int, 2) := by decide +kernel
theorem dX12_init_65 : decode cX12_init 65 = .ok (.putfield 31, 3) := by decide +kernel
theorem dX12_init_68 : decode cX12_init 68 = .ok (.aload_n 0, 1) := by decide +kernel
theorem dX12_init_69 : decode cX12_init 69 = .ok (.bipush 10, 2) := by decide +kernel
theorem dX12_init_71 : decode cX12_init 71 = .ok (.newarray .long, 2) := by decide +kernel
theorem dX12_init_73 : decode cX12_init 73 = .ok (.putfield 34, 3) := by decide +kernel
theorem dX12_init_76 : decode cX12_init 76 = .ok (.aload_n 0, 1) := by decide +kernel
theorem dX12_init_77 : decode cX12_init 77 = .ok (.bipush 16, 2) := by decide +kernel
theorem dX12_init_79 : decode cX12_init 79 = .ok (.newarray .int, 2) := by decide +kernel
theorem dX12_init_81 : decode cX12_init 81 = .ok (.putfield 38, 3) := by decide +kernel
theorem dX12_init_84 : decode cX12_init 84 = .ok (.aload_n 0, 1) := by decide +kernel
theorem dX12_init_85 : decode cX12_init 85 = .ok (.bipush 56, 2) := by decide +kernel
theorem dX12_init_87 : decode cX12_init 87 = .ok (.newarray .int, 2) := by decide +kernel
theorem dX12_init_89 : decode cX12_init 89 = .ok (.putfield 41, 3) := by decide +kernel
theorem dX12_init_92 : decode cX12_init 92 = .ok (.aload_n 0, 1) := by decide +kernel
theorem dX12_init_93 : decode cX12_init 93 = .ok (.bipush 18, 2) := by decide +kernel
theorem dX12_init_95 : decode cX12_init 95 = .ok (.newarray .int, 2) := by decide +kernel
theorem dX12_init_97 : decode cX12_init 97 = .ok (.putfield 44, 3) := by decide +kernel
theorem dX12_init_100 : decode cX12_init 100 = .ok (.aload_n 0, 1) := by decide +kernel
theorem dX12_init_101 : decode cX12_init 101 = .ok (.bipush 24, 2) := by decide +kernel
theorem dX12_init_103 : decode cX12_init 103 = .ok (.newarray .int, 2) := by decide +kernel
theorem dX12_init_105 : decode cX12_init 105 = .ok (.putfield 47, 3) := by decide +kernel
theorem dX12_init_108 : decode cX12_init 108 = .ok (.aload_n 0, 1) := by decide +kernel
theorem dX12_init_109 : decode cX12_init 109 = .ok (.bipush 16, 2) := by decide +kernel
theorem dX12_init_111 : decode cX12_init 111 = .ok (.newarray .int, 2) := by decide +kernel
theorem dX12_init_113 : decode cX12_init 113 = .ok (.putfield 50, 3) := by decide +kernel
theorem dX12_init_116 : decode cX12_init 116 = .ok (.aload_n 0, 1) := by decide +kernel
theorem dX12_init_117 : decode cX12_init 117 = .ok (.iconst (-1), 1) := by decide +kernel
theorem dX12_init_118 : decode cX12_init 118 = .ok (.putfield 53, 3) := by decide +kernel
theorem dX12_init_121 : decode cX12_init 121 = .ok (.aload_n 0, 1) := by decide +kernel
theorem dX12_init_122 : decode cX12_init 122 = .ok (.invokevirtual 57, 3) := by decide +kernel
theorem dX12_init_125 : decode cX12_init 125 = .ok (.return_, 1) := by decide +kernel
theorem dX12_in_0 : decode cX12_in 0 = .ok (.lload_n 0, 1) := by decide +kernel
theorem dX12_in_1 : decode cX12_in 1 = .ok (.lload_n 2, 1) := by decide +kernel
theorem dX12_in_2 : decode cX12_in 2 = .ok (.lcmp, 1) := by decide +kernel
theorem dX12_in_3 : decode cX12_in 3 = .ok (.ifCond .lt 14, 3) := by decide +kernel
theorem dX12_in_6 : decode cX12_in 6 = .ok (.lload_n 0, 1) := by decide +kernel
theorem dX12_in_7 : decode cX12_in 7 = .ok (.lload 4, 2) := by decide +kernel
theorem dX12_in_9 : decode cX12_in 9 = .ok (.lcmp, 1) := by decide +kernel
theorem dX12_in_10 : decode cX12_in 10 = .ok (.ifCond .gt 7, 3) := by decide +kernel
theorem dX12_in_13 : decode cX12_in 13 = .ok (.iconst 1, 1) := by decide +kernel
theorem dX12_in_14 : decode cX12_in 14 = .ok (.goto 4, 3) := by decide +kernel
theorem dX12_in_17 : decode cX12_in 17 = .ok (.iconst 0, 1) := by decide +kernel
theorem dX12_in_18 : decode cX12_in 18 = .ok (.ireturn, 1) := by decide +kernel
theorem dX12_letter_0 : decode cX12_letter 0 = .ok (.iload_n 1, 1) := by decide +kernel
theorem dX12_letter_1 : decode cX12_letter 1 = .ok (.i2l, 1) := by decide +kernel
theorem dX12_letter_2 : decode cX12_letter 2 = .ok (.lconst 1, 1) := by decide +kernel
theorem dX12_letter_3 : decode cX12_letter 3 = .ok (.ldc2_w 60, 3) := by decide +kernel
theorem dX12_letter_6 : decode cX12_letter 6 = .ok (.invokestatic 62, 3) := by decide +kernel
theorem dX12_letter_9 : decode cX12_letter 9 = .ok (.ifCond .ne 6, 3) := by decide +kernel
theorem dX12_letter_12 : decode cX12_letter 12 = .ok (.bipush (-102), 2) := by decide +kernel
theorem dX12_letter_14 : decode cX12_letter 14 = .ok (.ireturn, 1) := by decide +kernel
theorem dX12_letter_15 : decode cX12_letter 15 = .ok (.aload_n 0, 1) := by decide +kernel
theorem dX12_letter_16 : decode cX12_letter 16 = .ok (.getfield 66, 3) := by decide +kernel
theorem dX12_letter_19 : decode cX12_letter 19 = .ok (.bipush 40, 2) := by decide +kernel
theorem dX12_letter_21 : decode cX12_letter 21 = .ok (.if_icmp .ne 6, 3) := by decide +kernel
theorem dX12_letter_24 : decode cX12_letter 24 = .ok (.bipush (-104), 2) := by decide +kernel
theorem dX12_letter_26 : decode cX12_letter 26 = .ok (.ireturn, 1) := by decide +kernel
theorem dX12_letter_27 : decode cX12_letter 27 = .ok (.aload_n 0, 1) := by decide +kernel
theorem dX12_letter_28 : decode cX12_letter 28 = .ok (.getfield 7, 3) := by decide +kernel
theorem dX12_letter_31 : decode cX12_letter 31 = .ok (.aload_n 0, 1) := by decide +kernel
theorem dX12_letter_32 : decode cX12_letter 32 = .ok (.getfield 66, 3) := by decide +kernel
theorem dX12_letter_35 : decode cX12_letter 35 = .ok (.iload_n 1, 1) := by decide +kernel
theorem dX12_letter_36 : decode cX12_letter 36 = .ok (.iastore, 1) := by decide +kernel
theorem dX12_letter_37 : decode cX12_letter 37 = .ok (.aload_n 0, 1) := by decide +kernel
theorem dX12_letter_38 : decode cX12_letter 38 = .ok (.dup, 1) := by decide +kernel
theorem dX12_letter_39 : decode cX12_letter 39 = .ok (.getfield 66, 3) := by decide +kernel
theorem dX12_letter_42 : decode cX12_letter 42 = .ok (.iconst 1, 1) := by decide +kernel
theorem dX12_letter_43 : decode cX12_letter 43 = .ok (.iadd, 1) := by decide +kernel
theorem dX12_letter_44 : decode cX12_letter 44 = .ok (.putfield 66, 3) := by decide +kernel
theorem dX12_letter_47 : decode cX12_letter 47 = .ok (.aload_n 0, 1) := by decide +kernel
theorem dX12_letter_48 : decode cX12_letter 48 = .ok (.getfield 66, 3) := by decide +kernel
theorem dX12_letter_51 : decode cX12_letter 51 = .ok (.ireturn, 1) := by decide +kernel
theorem dX12_blank_0 : decode cX12_blank 0 = .ok (.aload_n 0, 1) := by decide +kernel
theorem dX12_blank_1 : decode cX12_blank 1 = .ok (.getfield 66, 3) := by decide +kernel
theorem dX12_blank_4 : decode cX12_blank 4 = .ok (.istore_n 1, 1) := by decide +kernel
theorem dX12_blank_5 : decode cX12_blank 5 = .ok (.aload_n 0, 1) := by decide +kernel
theorem dX12_blank_6 : decode cX12_blank 6 = .ok (.iconst 0, 1) := by decide +kernel
theorem dX12_blank_7 : decode cX12_blank 7 = .ok (.putfield 66, 3) := by decide +kernel
theorem dX12_blank_10 : decode cX12_blank 10 = .ok (.iload_n 1, 1) := by decide +kernel
theorem dX12_blank_11 : decode cX12_blank 11 = .ok (.ireturn, 1) := by decide +kernel
theorem dX12_kindBy_0 : decode cX12_kindBy 0 = .ok (.iload_n 0, 1) := by decide +kernel
theorem dX12_kindBy_1 : decode cX12_kindBy 1 = .ok (.bipush 98, 2) := by decide +kernel
theorem dX12_kindBy_3 : decode cX12_kindBy 3 = .ok (.if_icmp .ne 7, 3) := by decide +kernel
theorem dX12_kindBy_6 : decode cX12_kindBy 6 = .ok (.iconst 1, 1) := by decide +kernel
theorem dX12_kindBy_7 : decode cX12_kindBy 7 = .ok (.goto 34, 3) := by decide +kernel
theorem dX12_kindBy_10 : decode cX12_kindBy 10 = .ok (.iload_n 0, 1) := by decide +kernel
theorem dX12_kindBy_11 : decode cX12_kindBy 11 = .ok (.bipush 106, 2) := by decide +kernel
theorem dX12_kindBy_13 : decode cX12_kindBy 13 = .ok (.if_icmp .ne 7, 3) := by decide +kernel
theorem dX12_kindBy_16 : decode cX12_kindBy 16 = .ok (.iconst 2, 1) := by decide +kernel
theorem dX12_kindBy_17 : decode cX12_kindBy 17 = .ok (.goto 24, 3) := by decide +kernel
theorem dX12_kindBy_20 : decode cX12_kindBy 20 = .ok (.iload_n 0, 1) := by decide +kernel
theorem dX12_kindBy_21 : decode cX12_kindBy 21 = .ok (.bipush 103, 2) := by decide +kernel
theorem dX12_kindBy_23 : decode cX12_kindBy 23 = .ok (.if_icmp .ne 7, 3) := by decide +kernel
theorem dX12_kindBy_26 : decode cX12_kindBy 26 = .ok (.iconst 3, 1) := by decide +kernel
theorem dX12_kindBy_27 : decode cX12_kindBy 27 = .ok (.goto 14, 3) := by decide +kernel
theorem dX12_kindBy_30 : decode cX12_kindBy 30 = .ok (.iload_n 0, 1) := by decide +kernel
theorem dX12_kindBy_31 : decode cX12_kindBy 31 = .ok (.bipush 112, 2) := by decide +kernel
theorem dX12_kindBy_33 : decode cX12_kindBy 33 = .ok (.if_icmp .ne 7, 3) := by decide +kernel
theorem dX12_kindBy_36 : decode cX12_kindBy 36 = .ok (.iconst 4, 1) := by decide +kernel
theorem dX12_kindBy_37 : decode cX12_kindBy 37 = .ok (.goto 4, 3) := by decide +kernel
theorem dX12_kindBy_40 : decode cX12_kindBy 40 = .ok (.iconst 0, 1) := by decide +kernel
theorem dX12_kindBy_41 : decode cX12_kindBy 41 = .ok (.ireturn, 1) := by decide +kernel
theorem dX12_go_0 : decode cX12_go 0 = .ok (.iload_n 1, 1) := by decide +kernel
theorem dX12_go_1 : decode cX12_go 1 = .ok (.bipush 48, 2) := by decide +kernel
theorem dX12_go_3 : decode cX12_go 3 = .ok (.isub, 1) := by decide +kernel
theorem dX12_go_4 : decode cX12_go 4 = .ok (.istore_n 2, 1) := by decide +kernel
theorem dX12_go_5 : decode cX12_go 5 = .ok (.iconst 4, 1) := by decide +kernel
theorem dX12_go_6 : decode cX12_go 6 = .ok (.aload_n 0, 1) := by decide +kernel
theorem dX12_go_7 : decode cX12_go 7 = .ok (.getfield 69, 3) := by decide +kernel
theorem dX12_go_10 : decode cX12_go 10 = .ok (.imul, 1) := by decide +kernel
theorem dX12_go_11 : decode cX12_go 11 = .ok (.istore_n 3, 1) := by decide +kernel
theorem dX12_go_12 : decode cX12_go 12 = .ok (.aload_n 0, 1) := by decide +kernel
theorem dX12_go_13 : decode cX12_go 13 = .ok (.getfield 72, 3) := by decide +kernel
theorem dX12_go_16 : decode cX12_go 16 = .ok (.iconst 4, 1) := by decide +kernel
theorem dX12_go_17 : decode cX12_go 17 = .ok (.if_icmp .ne 29, 3) := by decide +kernel
theorem dX12_go_20 : decode cX12_go 20 = .ok (.aload_n 0, 1) := by decide +kernel
theorem dX12_go_21 : decode cX12_go 21 = .ok (.iconst 0, 1) := by decide +kernel
theorem dX12_go_22 : decode cX12_go 22 = .ok (.putfield 72, 3) := by decide +kernel
theorem dX12_go_25 : decode cX12_go 25 = .ok (.iload_n 1, 1) := by decide +kernel
theorem dX12_go_26 : decode cX12_go 26 = .ok (.bipush 44, 2) := by decide +kernel
theorem dX12_go_28 : decode cX12_go 28 = .ok (.if_icmp .ne 16, 3) := by decide +kernel
theorem dX12_go_31 : decode cX12_go 31 = .ok (.aload_n 0, 1) := by decide +kernel
theorem dX12_go_32 : decode cX12_go 32 = .ok (.getfield 69, 3) := by decide +kernel
theorem dX12_go_35 : decode cX12_go 35 = .ok (.bipush 8, 2) := by decide +kernel
theorem dX12_go_37 : decode cX12_go 37 = .ok (.if_icmp .ge 7, 3) := by decide +kernel
theorem dX12_go_40 : decode cX12_go 40 = .ok (.iconst 1, 1) := by decide +kernel
theorem dX12_go_41 : decode cX12_go 41 = .ok (.goto 4, 3) := by decide +kernel
theorem dX12_go_44 : decode cX12_go 44 = .ok (.iconst 0, 1) := by decide +kernel
theorem dX12_go_45 : decode cX12_go 45 = .ok (.ireturn, 1) := by decide +kernel
theorem dX12_go_46 : decode cX12_go 46 = .ok (.aload_n 0, 1) := by decide +kernel
theorem dX12_go_47 : decode cX12_go 47 = .ok (.getfield 72, 3) := by decide +kernel
theorem dX12_go_50 : decode cX12_go 50 = .ok (.iconst 3, 1) := by decide +kernel
theorem dX12_go_51 : decode cX12_go 51 = .ok (.if_icmp .ne 37, 3) := by decide +kernel
theorem dX12_go_54 : decode cX12_go 54 = .ok (.aload_n 0, 1) := by decide +kernel
theorem dX12_go_55 : decode cX12_go 55 = .ok (.getfield 13, 3) := by decide +kernel
theorem dX12_go_58 : decode cX12_go 58 = .ok (.iload_n 3, 1) := by decide +kernel
theorem dX12_go_59 : decode cX12_go 59 = .ok (.iconst 3, 1) := by decide +kernel
theorem dX12_go_60 : decode cX12_go 60 = .ok (.iadd, 1) := by decide +kernel
theorem dX12_go_61 : decode cX12_go 61 = .ok (.iload_n 2, 1) := by decide +kernel
theorem dX12_go_62 : decode cX12_go 62 = .ok (.iastore, 1) := by decide +kernel
theorem dX12_go_63 : decode cX12_go 63 = .ok (.aload_n 0, 1) := by decide +kernel
theorem dX12_go_64 : decode cX12_go 64 = .ok (.dup, 1) := by decide +kernel
theorem dX12_go_65 : decode cX12_go 65 = .ok (.getfield 69, 3) := by decide +kernel
theorem dX12_go_68 : decode cX12_go 68 = .ok (.iconst 1, 1) := by decide +kernel
theorem dX12_go_69 : decode cX12_go 69 = .ok (.iadd, 1) := by decide +kernel
theorem dX12_go_70 : decode cX12_go 70 = .ok (.putfield 69, 3) := by decide +kernel
theorem dX12_go_73 : decode cX12_go 73 = .ok (.aload_n 0, 1) := by decide +kernel
theorem dX12_go_74 : decode cX12_go 74 = .ok (.iconst 4, 1) := by decide +kernel
theorem dX12_go_75 : decode cX12_go 75 = .ok (.putfield 72, 3) := by decide +kernel
theorem dX12_go_78 : decode cX12_go 78 = .ok (.iload_n 2, 1) := by decide +kernel
theorem dX12_go_79 : decode cX12_go 79 = .ok (.i2l, 1) := by decide +kernel
theorem dX12_go_80 : decode cX12_go 80 = .ok (.lconst 1, 1) := by decide +kernel
theorem dX12_go_81 : decode cX12_go 81 = .ok (.ldc2_w 75, 3) := by decide +kernel
theorem dX12_go_84 : decode cX12_go 84 = .ok (.invokestatic 62, 3) := by decide +kernel
theorem dX12_go_87 : decode cX12_go 87 = .ok (.ireturn, 1) := by decide +kernel
theorem dX12_go_88 : decode cX12_go 88 = .ok (.aload_n 0, 1) := by decide +kernel
theorem dX12_go_89 : decode cX12_go 89 = .ok (.getfield 72, 3) := by decide +kernel
theorem dX12_go_92 : decode cX12_go 92 = .ok (.iconst 2, 1) := by decide +kernel
theorem dX12_go_93 : decode cX12_go 93 = .ok (.if_icmp .ne 47, 3) := by decide +kernel
theorem dX12_go_96 : decode cX12_go 96 = .ok (.aload_n 0, 1) := by decide +kernel
theorem dX12_go_97 : decode cX12_go 97 = .ok (.getfield 13, 3) := by decide +kernel
theorem dX12_go_100 : decode cX12_go 100 = .ok (.iload_n 3, 1) := by decide +kernel
theorem dX12_go_101 : decode cX12_go 101 = .ok (.iconst 2, 1) := by decide +kernel
theorem dX12_go_102 : decode cX12_go 102 = .ok (.iadd, 1) := by decide +kernel
theorem dX12_go_103 : decode cX12_go 103 = .ok (.iload_n 2, 1) := by decide +kernel
theorem dX12_go_104 : decode cX12_go 104 = .ok (.iastore, 1) := by decide +kernel
theorem dX12_go_105 : decode cX12_go 105 = .ok (.aload_n 0, 1) := by decide +kernel
theorem dX12_go_106 : decode cX12_go 106 = .ok (.iconst 3, 1) := by decide +kernel
theorem dX12_go_107 : decode cX12_go 107 = .ok (.putfield 72, 3) := by decide +kernel
theorem dX12_go_110 : decode cX12_go 110 = .ok (.iload_n 2, 1) := by decide +kernel
theorem dX12_go_111 : decode cX12_go 111 = .ok (.i2l, 1) := by decide +kernel
theorem dX12_go_112 : decode cX12_go 112 = .ok (.lconst 0, 1) := by decide +kernel
theorem dX12_go_113 : decode cX12_go 113 = .ok (.ldc2_w 77, 3) := by decide +kernel
theorem dX12_go_116 : decode cX12_go 116 = .ok (.invokestatic 62, 3) := by decide +kernel
theorem dX12_go_119 : decode cX12_go 119 = .ok (.ifCond .eq 19, 3) := by decide +kernel
theorem dX12_go_122 : decode cX12_go 122 = .ok (.iload_n 2, 1) := by decide +kernel
theorem dX12_go_123 : decode cX12_go 123 = .ok (.aload_n 0, 1) := by decide +kernel
theorem dX12_go_124 : decode cX12_go 124 = .ok (.getfield 13, 3) := by decide +kernel
theorem dX12_go_127 : decode cX12_go 127 = .ok (.iload_n 3, 1) := by decide +kernel
theorem dX12_go_128 : decode cX12_go 128 = .ok (.iconst 1, 1) := by decide +kernel
theorem dX12_go_129 : decode cX12_go 129 = .ok (.iadd, 1) := by decide +kernel
theorem dX12_go_130 : decode cX12_go 130 = .ok (.iaload, 1) := by decide +kernel
theorem dX12_go_131 : decode cX12_go 131 = .ok (.if_icmp .eq 7, 3) := by decide +kernel
theorem dX12_go_134 : decode cX12_go 134 = .ok (.iconst 1, 1) := by decide +kernel
theorem dX12_go_135 : decode cX12_go 135 = .ok (.goto 4, 3) := by decide +kernel
theorem dX12_go_138 : decode cX12_go 138 = .ok (.iconst 0, 1) := by decide +kernel
theorem dX12_go_139 : decode cX12_go 139 = .ok (.ireturn, 1) := by decide +kernel
theorem dX12_go_140 : decode cX12_go 140 = .ok (.aload_n 0, 1) := by decide +kernel
theorem dX12_go_141 : decode cX12_go 141 = .ok (.getfield 72, 3) := by decide +kernel
theorem dX12_go_144 : decode cX12_go 144 = .ok (.ifCond .ne 29, 3) := by decide +kernel
theorem dX12_go_147 : decode cX12_go 147 = .ok (.aload_n 0, 1) := by decide +kernel
theorem dX12_go_148 : decode cX12_go 148 = .ok (.getfield 13, 3) := by decide +kernel
theorem dX12_go_151 : decode cX12_go 151 = .ok (.iload_n 3, 1) := by decide +kernel
theorem dX12_go_152 : decode cX12_go 152 = .ok (.iload_n 1, 1) := by decide +kernel
theorem dX12_go_153 : decode cX12_go 153 = .ok (.invokestatic 79, 3) := by decide +kernel
theorem dX12_go_156 : decode cX12_go 156 = .ok (.iastore, 1) := by decide +kernel
theorem dX12_go_157 : decode cX12_go 157 = .ok (.aload_n 0, 1) := by decide +kernel
theorem dX12_go_158 : decode cX12_go 158 = .ok (.getfield 13, 3) := by decide +kernel
theorem dX12_go_161 : decode cX12_go 161 = .ok (.iload_n 3, 1) := by decide +kernel
theorem dX12_go_162 : decode cX12_go 162 = .ok (.iaload, 1) := by decide +kernel
theorem dX12_go_163 : decode cX12_go 163 = .ok (.ifCond .le 10, 3) := by decide +kernel
theorem dX12_go_166 : decode cX12_go 166 = .ok (.aload_n 0, 1) := by decide +kernel
theorem dX12_go_167 : decode cX12_go 167 = .ok (.iconst 1, 1) := by decide +kernel
theorem dX12_go_168 : decode cX12_go 168 = .ok (.putfield 72, 3) := by decide +kernel
theorem dX12_go_171 : decode cX12_go 171 = .ok (.iconst 1, 1) := by decide +kernel
theorem dX12_go_172 : decode cX12_go 172 = .ok (.ireturn, 1) := by decide +kernel
theorem dX12_go_173 : decode cX12_go 173 = .ok (.aload_n 0, 1) := by decide +kernel
theorem dX12_go_174 : decode cX12_go 174 = .ok (.getfield 13, 3) := by decide +kernel
theorem dX12_go_177 : decode cX12_go 177 = .ok (.iload_n 3, 1) := by decide +kernel
theorem dX12_go_178 : decode cX12_go 178 = .ok (.iconst 1, 1) := by decide +kernel
theorem dX12_go_179 : decode cX12_go 179 = .ok (.iadd, 1) := by decide +kernel
theorem dX12_go_180 : decode cX12_go 180 = .ok (.iload_n 2, 1) := by decide +kernel
theorem dX12_go_181 : decode cX12_go 181 = .ok (.iastore, 1) := by decide +kernel
theorem dX12_go_182 : decode cX12_go 182 = .ok (.aload_n 0, 1) := by decide +kernel
theorem dX12_go_183 : decode cX12_go 183 = .ok (.iconst 2, 1) := by decide +kernel
theorem dX12_go_184 : decode cX12_go 184 = .ok (.putfield 72, 3) := by decide +kernel
theorem dX12_go_187 : decode cX12_go 187 = .ok (.iload_n 2, 1) := by decide +kernel
theorem dX12_go_188 : decode cX12_go 188 = .ok (.i2l, 1) := by decide +kernel
theorem dX12_go_189 : decode cX12_go 189 = .ok (.lconst 0, 1) := by decide +kernel
theorem dX12_go_190 : decode cX12_go 190 = .ok (.ldc2_w 77, 3) := by decide +kernel
theorem dX12_go_193 : decode cX12_go 193 = .ok (.invokestatic 62, 3) := by decide +kernel
theorem dX12_go_196 : decode cX12_go 196 = .ok (.ireturn, 1) := by decide +kernel
theorem dX12_faultOf_0 : decode cX12_faultOf 0 = .ok (.aload_n 0, 1) := by decide +kernel
theorem dX12_faultOf_1 : decode cX12_faultOf 1 = .ok (.iconst 0, 1) := by decide +kernel
theorem dX12_faultOf_2 : decode cX12_faultOf 2 = .ok (.putfield 69, 3) := by decide +kernel
theorem dX12_faultOf_5 : decode cX12_faultOf 5 = .ok (.aload_n 0, 1) := by decide +kernel
theorem dX12_faultOf_6 : decode cX12_faultOf 6 = .ok (.iconst 0, 1) := by decide +kernel
theorem dX12_faultOf_7 : decode cX12_faultOf 7 = .ok (.putfield 72, 3) := by decide +kernel
theorem dX12_faultOf_10 : decode cX12_faultOf 10 = .ok (.iconst 0, 1) := by decide +kernel
theorem dX12_faultOf_11 : decode cX12_faultOf 11 = .ok (.istore_n 1, 1) := by decide +kernel
theorem dX12_faultOf_12 : decode cX12_faultOf 12 = .ok (.iload_n 1, 1) := by decide +kernel
theorem dX12_faultOf_13 : decode cX12_faultOf 13 = .ok (.aload_n 0, 1) := by decide +kernel
theorem dX12_faultOf_14 : decode cX12_faultOf 14 = .ok (.getfield 66, 3) := by decide +kernel
theorem dX12_faultOf_17 : decode cX12_faultOf 17 = .ok (.if_icmp .ge 22, 3) := by decide +kernel
theorem dX12_faultOf_20 : decode cX12_faultOf 20 = .ok (.aload_n 0, 1) := by decide +kernel
theorem dX12_faultOf_21 : decode cX12_faultOf 21 = .ok (.aload_n 0, 1) := by decide +kernel
theorem dX12_faultOf_22 : decode cX12_faultOf 22 = .ok (.getfield 7, 3) := by decide +kernel
theorem dX12_faultOf_25 : decode cX12_faultOf 25 = .ok (.iload_n 1, 1) := by decide +kernel
theorem dX12_faultOf_26 : decode cX12_faultOf 26 = .ok (.iaload, 1) := by decide +kernel
theorem dX12_faultOf_27 : decode cX12_faultOf 27 = .ok (.invokevirtual 83, 3) := by decide +kernel
theorem dX12_faultOf_30 : decode cX12_faultOf 30 = .ok (.ifCond .eq 9, 3) := by decide +kernel
theorem dX12_faultOf_33 : decode cX12_faultOf 33 = .ok (.iinc 1 1, 3) := by decide +kernel
theorem dX12_faultOf_36 : decode cX12_faultOf 36 = .ok (.goto (-24), 3) := by decide +kernel
theorem dX12_faultOf_39 : decode cX12_faultOf 39 = .ok (.iload_n 1, 1) := by decide +kernel
theorem dX12_faultOf_40 : decode cX12_faultOf 40 = .ok (.ireturn, 1) := by decide +kernel
theorem dX12_fault_0 : decode cX12_fault 0 = .ok (.aload_n 0, 1) := by decide +kernel
theorem dX12_fault_1 : decode cX12_fault 1 = .ok (.invokevirtual 87, 3) := by decide +kernel
theorem dX12_fault_4 : decode cX12_fault 4 = .ok (.ireturn, 1) := by decide +kernel
theorem dX12_peopleAsAtFirst_0 : decode cX12_peopleAsAtFirst 0 = .ok (.iconst 0, 1) := by decide +kernel
theorem dX12_peopleAsAtFirst_1 : decode cX12_peopleAsAtFirst 1 = .ok (.istore_n 1, 1) := by decide +kernel
theorem dX12_peopleAsAtFirst_2 : decode cX12_peopleAsAtFirst 2 = .ok (.iload_n 1, 1) := by decide +kernel
