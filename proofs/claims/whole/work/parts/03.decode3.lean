theorem dX12_peopleAsAtFirst_3 : decode cX12_peopleAsAtFirst 3 = .ok (.bipush 6, 2) := by decide +kernel
theorem dX12_peopleAsAtFirst_5 : decode cX12_peopleAsAtFirst 5 = .ok (.if_icmp .ge 41, 3) := by decide +kernel
theorem dX12_peopleAsAtFirst_8 : decode cX12_peopleAsAtFirst 8 = .ok (.aload_n 0, 1) := by decide +kernel
theorem dX12_peopleAsAtFirst_9 : decode cX12_peopleAsAtFirst 9 = .ok (.getfield 19, 3) := by decide +kernel
theorem dX12_peopleAsAtFirst_12 : decode cX12_peopleAsAtFirst 12 = .ok (.iconst 3, 1) := by decide +kernel
theorem dX12_peopleAsAtFirst_13 : decode cX12_peopleAsAtFirst 13 = .ok (.iload_n 1, 1) := by decide +kernel
theorem dX12_peopleAsAtFirst_14 : decode cX12_peopleAsAtFirst 14 = .ok (.imul, 1) := by decide +kernel
theorem dX12_peopleAsAtFirst_15 : decode cX12_peopleAsAtFirst 15 = .ok (.bipush 9, 2) := by decide +kernel
theorem dX12_peopleAsAtFirst_17 : decode cX12_peopleAsAtFirst 17 = .ok (.iastore, 1) := by decide +kernel
theorem dX12_peopleAsAtFirst_18 : decode cX12_peopleAsAtFirst 18 = .ok (.aload_n 0, 1) := by decide +kernel
theorem dX12_peopleAsAtFirst_19 : decode cX12_peopleAsAtFirst 19 = .ok (.getfield 19, 3) := by decide +kernel
theorem dX12_peopleAsAtFirst_22 : decode cX12_peopleAsAtFirst 22 = .ok (.iconst 3, 1) := by decide +kernel
theorem dX12_peopleAsAtFirst_23 : decode cX12_peopleAsAtFirst 23 = .ok (.iload_n 1, 1) := by decide +kernel
theorem dX12_peopleAsAtFirst_24 : decode cX12_peopleAsAtFirst 24 = .ok (.imul, 1) := by decide +kernel
theorem dX12_peopleAsAtFirst_25 : decode cX12_peopleAsAtFirst 25 = .ok (.iconst 1, 1) := by decide +kernel
theorem dX12_peopleAsAtFirst_26 : decode cX12_peopleAsAtFirst 26 = .ok (.iadd, 1) := by decide +kernel
theorem dX12_peopleAsAtFirst_27 : decode cX12_peopleAsAtFirst 27 = .ok (.iconst (-1), 1) := by decide +kernel
theorem dX12_peopleAsAtFirst_28 : decode cX12_peopleAsAtFirst 28 = .ok (.iastore, 1) := by decide +kernel
theorem dX12_peopleAsAtFirst_29 : decode cX12_peopleAsAtFirst 29 = .ok (.aload_n 0, 1) := by decide +kernel
theorem dX12_peopleAsAtFirst_30 : decode cX12_peopleAsAtFirst 30 = .ok (.getfield 19, 3) := by decide +kernel
theorem dX12_peopleAsAtFirst_33 : decode cX12_peopleAsAtFirst 33 = .ok (.iconst 3, 1) := by decide +kernel
theorem dX12_peopleAsAtFirst_34 : decode cX12_peopleAsAtFirst 34 = .ok (.iload_n 1, 1) := by decide +kernel
theorem dX12_peopleAsAtFirst_35 : decode cX12_peopleAsAtFirst 35 = .ok (.imul, 1) := by decide +kernel
theorem dX12_peopleAsAtFirst_36 : decode cX12_peopleAsAtFirst 36 = .ok (.iconst 2, 1) := by decide +kernel
theorem dX12_peopleAsAtFirst_37 : decode cX12_peopleAsAtFirst 37 = .ok (.iadd, 1) := by decide +kernel
theorem dX12_peopleAsAtFirst_38 : decode cX12_peopleAsAtFirst 38 = .ok (.iconst 1, 1) := by decide +kernel
theorem dX12_peopleAsAtFirst_39 : decode cX12_peopleAsAtFirst 39 = .ok (.iastore, 1) := by decide +kernel
theorem dX12_peopleAsAtFirst_40 : decode cX12_peopleAsAtFirst 40 = .ok (.iinc 1 1, 3) := by decide +kernel
theorem dX12_peopleAsAtFirst_43 : decode cX12_peopleAsAtFirst 43 = .ok (.goto (-41), 3) := by decide +kernel
theorem dX12_peopleAsAtFirst_46 : decode cX12_peopleAsAtFirst 46 = .ok (.return_, 1) := by decide +kernel
theorem dX12_list_0 : decode cX12_list 0 = .ok (.aload_n 0, 1) := by decide +kernel
theorem dX12_list_1 : decode cX12_list 1 = .ok (.invokevirtual 87, 3) := by decide +kernel
theorem dX12_list_4 : decode cX12_list 4 = .ok (.aload_n 0, 1) := by decide +kernel
theorem dX12_list_5 : decode cX12_list 5 = .ok (.getfield 66, 3) := by decide +kernel
theorem dX12_list_8 : decode cX12_list 8 = .ok (.if_icmp .lt 11, 3) := by decide +kernel
theorem dX12_list_11 : decode cX12_list 11 = .ok (.aload_n 0, 1) := by decide +kernel
theorem dX12_list_12 : decode cX12_list 12 = .ok (.getfield 72, 3) := by decide +kernel
theorem dX12_list_15 : decode cX12_list 15 = .ok (.iconst 4, 1) := by decide +kernel
theorem dX12_list_16 : decode cX12_list 16 = .ok (.if_icmp .eq 6, 3) := by decide +kernel
theorem dX12_list_19 : decode cX12_list 19 = .ok (.bipush (-103), 2) := by decide +kernel
theorem dX12_list_21 : decode cX12_list 21 = .ok (.ireturn, 1) := by decide +kernel
theorem dX12_list_22 : decode cX12_list 22 = .ok (.iconst 0, 1) := by decide +kernel
theorem dX12_list_23 : decode cX12_list 23 = .ok (.istore_n 1, 1) := by decide +kernel
theorem dX12_list_24 : decode cX12_list 24 = .ok (.iload_n 1, 1) := by decide +kernel
theorem dX12_list_25 : decode cX12_list 25 = .ok (.aload_n 0, 1) := by decide +kernel
theorem dX12_list_26 : decode cX12_list 26 = .ok (.getfield 69, 3) := by decide +kernel
theorem dX12_list_29 : decode cX12_list 29 = .ok (.if_icmp .ge 110, 3) := by decide +kernel
theorem dX12_list_32 : decode cX12_list 32 = .ok (.bipush 7, 2) := by decide +kernel
theorem dX12_list_34 : decode cX12_list 34 = .ok (.iload_n 1, 1) := by decide +kernel
theorem dX12_list_35 : decode cX12_list 35 = .ok (.imul, 1) := by decide +kernel
theorem dX12_list_36 : decode cX12_list 36 = .ok (.istore_n 2, 1) := by decide +kernel
theorem dX12_list_37 : decode cX12_list 37 = .ok (.aload_n 0, 1) := by decide +kernel
theorem dX12_list_38 : decode cX12_list 38 = .ok (.getfield 16, 3) := by decide +kernel
theorem dX12_list_41 : decode cX12_list 41 = .ok (.iload_n 2, 1) := by decide +kernel
theorem dX12_list_42 : decode cX12_list 42 = .ok (.aload_n 0, 1) := by decide +kernel
theorem dX12_list_43 : decode cX12_list 43 = .ok (.getfield 13, 3) := by decide +kernel
theorem dX12_list_46 : decode cX12_list 46 = .ok (.iconst 4, 1) := by decide +kernel
theorem dX12_list_47 : decode cX12_list 47 = .ok (.iload_n 1, 1) := by decide +kernel
theorem dX12_list_48 : decode cX12_list 48 = .ok (.imul, 1) := by decide +kernel
theorem dX12_list_49 : decode cX12_list 49 = .ok (.iaload, 1) := by decide +kernel
theorem dX12_list_50 : decode cX12_list 50 = .ok (.iastore, 1) := by decide +kernel
theorem dX12_list_51 : decode cX12_list 51 = .ok (.aload_n 0, 1) := by decide +kernel
theorem dX12_list_52 : decode cX12_list 52 = .ok (.getfield 16, 3) := by decide +kernel
theorem dX12_list_55 : decode cX12_list 55 = .ok (.iload_n 2, 1) := by decide +kernel
theorem dX12_list_56 : decode cX12_list 56 = .ok (.iconst 1, 1) := by decide +kernel
theorem dX12_list_57 : decode cX12_list 57 = .ok (.iadd, 1) := by decide +kernel
theorem dX12_list_58 : decode cX12_list 58 = .ok (.aload_n 0, 1) := by decide +kernel
theorem dX12_list_59 : decode cX12_list 59 = .ok (.getfield 13, 3) := by decide +kernel
theorem dX12_list_62 : decode cX12_list 62 = .ok (.iconst 4, 1) := by decide +kernel
theorem dX12_list_63 : decode cX12_list 63 = .ok (.iload_n 1, 1) := by decide +kernel
theorem dX12_list_64 : decode cX12_list 64 = .ok (.imul, 1) := by decide +kernel
theorem dX12_list_65 : decode cX12_list 65 = .ok (.iconst 3, 1) := by decide +kernel
theorem dX12_list_66 : decode cX12_list 66 = .ok (.iadd, 1) := by decide +kernel
theorem dX12_list_67 : decode cX12_list 67 = .ok (.iaload, 1) := by decide +kernel
theorem dX12_list_68 : decode cX12_list 68 = .ok (.iastore, 1) := by decide +kernel
theorem dX12_list_69 : decode cX12_list 69 = .ok (.aload_n 0, 1) := by decide +kernel
theorem dX12_list_70 : decode cX12_list 70 = .ok (.getfield 16, 3) := by decide +kernel
theorem dX12_list_73 : decode cX12_list 73 = .ok (.iload_n 2, 1) := by decide +kernel
theorem dX12_list_74 : decode cX12_list 74 = .ok (.iconst 2, 1) := by decide +kernel
theorem dX12_list_75 : decode cX12_list 75 = .ok (.iadd, 1) := by decide +kernel
theorem dX12_list_76 : decode cX12_list 76 = .ok (.iconst 0, 1) := by decide +kernel
theorem dX12_list_77 : decode cX12_list 77 = .ok (.iastore, 1) := by decide +kernel
theorem dX12_list_78 : decode cX12_list 78 = .ok (.aload_n 0, 1) := by decide +kernel
theorem dX12_list_79 : decode cX12_list 79 = .ok (.getfield 16, 3) := by decide +kernel
theorem dX12_list_82 : decode cX12_list 82 = .ok (.iload_n 2, 1) := by decide +kernel
theorem dX12_list_83 : decode cX12_list 83 = .ok (.iconst 3, 1) := by decide +kernel
theorem dX12_list_84 : decode cX12_list 84 = .ok (.iadd, 1) := by decide +kernel
theorem dX12_list_85 : decode cX12_list 85 = .ok (.aload_n 0, 1) := by decide +kernel
theorem dX12_list_86 : decode cX12_list 86 = .ok (.getfield 13, 3) := by decide +kernel
theorem dX12_list_89 : decode cX12_list 89 = .ok (.iconst 4, 1) := by decide +kernel
theorem dX12_list_90 : decode cX12_list 90 = .ok (.iload_n 1, 1) := by decide +kernel
theorem dX12_list_91 : decode cX12_list 91 = .ok (.imul, 1) := by decide +kernel
theorem dX12_list_92 : decode cX12_list 92 = .ok (.iconst 1, 1) := by decide +kernel
theorem dX12_list_93 : decode cX12_list 93 = .ok (.iadd, 1) := by decide +kernel
theorem dX12_list_94 : decode cX12_list 94 = .ok (.iaload, 1) := by decide +kernel
theorem dX12_list_95 : decode cX12_list 95 = .ok (.iastore, 1) := by decide +kernel
theorem dX12_list_96 : decode cX12_list 96 = .ok (.aload_n 0, 1) := by decide +kernel
theorem dX12_list_97 : decode cX12_list 97 = .ok (.getfield 16, 3) := by decide +kernel
theorem dX12_list_100 : decode cX12_list 100 = .ok (.iload_n 2, 1) := by decide +kernel
theorem dX12_list_101 : decode cX12_list 101 = .ok (.iconst 4, 1) := by decide +kernel
theorem dX12_list_102 : decode cX12_list 102 = .ok (.iadd, 1) := by decide +kernel
theorem dX12_list_103 : decode cX12_list 103 = .ok (.aload_n 0, 1) := by decide +kernel
theorem dX12_list_104 : decode cX12_list 104 = .ok (.getfield 13, 3) := by decide +kernel
theorem dX12_list_107 : decode cX12_list 107 = .ok (.iconst 4, 1) := by decide +kernel
theorem dX12_list_108 : decode cX12_list 108 = .ok (.iload_n 1, 1) := by decide +kernel
theorem dX12_list_109 : decode cX12_list 109 = .ok (.imul, 1) := by decide +kernel
theorem dX12_list_110 : decode cX12_list 110 = .ok (.iconst 2, 1) := by decide +kernel
theorem dX12_list_111 : decode cX12_list 111 = .ok (.iadd, 1) := by decide +kernel
theorem dX12_list_112 : decode cX12_list 112 = .ok (.iaload, 1) := by decide +kernel
theorem dX12_list_113 : decode cX12_list 113 = .ok (.iastore, 1) := by decide +kernel
theorem dX12_list_114 : decode cX12_list 114 = .ok (.aload_n 0, 1) := by decide +kernel
theorem dX12_list_115 : decode cX12_list 115 = .ok (.getfield 16, 3) := by decide +kernel
theorem dX12_list_118 : decode cX12_list 118 = .ok (.iload_n 2, 1) := by decide +kernel
theorem dX12_list_119 : decode cX12_list 119 = .ok (.iconst 5, 1) := by decide +kernel
theorem dX12_list_120 : decode cX12_list 120 = .ok (.iadd, 1) := by decide +kernel
theorem dX12_list_121 : decode cX12_list 121 = .ok (.iconst (-1), 1) := by decide +kernel
theorem dX12_list_122 : decode cX12_list 122 = .ok (.iastore, 1) := by decide +kernel
theorem dX12_list_123 : decode cX12_list 123 = .ok (.aload_n 0, 1) := by decide +kernel
theorem dX12_list_124 : decode cX12_list 124 = .ok (.getfield 16, 3) := by decide +kernel
theorem dX12_list_127 : decode cX12_list 127 = .ok (.iload_n 2, 1) := by decide +kernel
theorem dX12_list_128 : decode cX12_list 128 = .ok (.bipush 6, 2) := by decide +kernel
theorem dX12_list_130 : decode cX12_list 130 = .ok (.iadd, 1) := by decide +kernel
theorem dX12_list_131 : decode cX12_list 131 = .ok (.iconst (-1), 1) := by decide +kernel
theorem dX12_list_132 : decode cX12_list 132 = .ok (.iastore, 1) := by decide +kernel
theorem dX12_list_133 : decode cX12_list 133 = .ok (.iinc 1 1, 3) := by decide +kernel
theorem dX12_list_136 : decode cX12_list 136 = .ok (.goto (-112), 3) := by decide +kernel
theorem dX12_list_139 : decode cX12_list 139 = .ok (.aload_n 0, 1) := by decide +kernel
theorem dX12_list_140 : decode cX12_list 140 = .ok (.aload_n 0, 1) := by decide +kernel
theorem dX12_list_141 : decode cX12_list 141 = .ok (.getfield 69, 3) := by decide +kernel
theorem dX12_list_144 : decode cX12_list 144 = .ok (.putfield 91, 3) := by decide +kernel
theorem dX12_list_147 : decode cX12_list 147 = .ok (.aload_n 0, 1) := by decide +kernel
theorem dX12_list_148 : decode cX12_list 148 = .ok (.invokevirtual 57, 3) := by decide +kernel
theorem dX12_list_151 : decode cX12_list 151 = .ok (.aload_n 0, 1) := by decide +kernel
theorem dX12_list_152 : decode cX12_list 152 = .ok (.iconst 0, 1) := by decide +kernel
theorem dX12_list_153 : decode cX12_list 153 = .ok (.putfield 94, 3) := by decide +kernel
theorem dX12_list_156 : decode cX12_list 156 = .ok (.aload_n 0, 1) := by decide +kernel
theorem dX12_list_157 : decode cX12_list 157 = .ok (.iconst 0, 1) := by decide +kernel
theorem dX12_list_158 : decode cX12_list 158 = .ok (.putfield 97, 3) := by decide +kernel
theorem dX12_list_161 : decode cX12_list 161 = .ok (.aload_n 0, 1) := by decide +kernel
theorem dX12_list_162 : decode cX12_list 162 = .ok (.dup, 1) := by decide +kernel
theorem dX12_list_163 : decode cX12_list 163 = .ok (.getfield 100, 3) := by decide +kernel
theorem dX12_list_166 : decode cX12_list 166 = .ok (.iconst 1, 1) := by decide +kernel
theorem dX12_list_167 : decode cX12_list 167 = .ok (.iadd, 1) := by decide +kernel
theorem dX12_list_168 : decode cX12_list 168 = .ok (.putfield 100, 3) := by decide +kernel
theorem dX12_list_171 : decode cX12_list 171 = .ok (.aload_n 0, 1) := by decide +kernel
theorem dX12_list_172 : decode cX12_list 172 = .ok (.iconst 0, 1) := by decide +kernel
theorem dX12_list_173 : decode cX12_list 173 = .ok (.putfield 66, 3) := by decide +kernel
theorem dX12_list_176 : decode cX12_list 176 = .ok (.aload_n 0, 1) := by decide +kernel
theorem dX12_list_177 : decode cX12_list 177 = .ok (.getfield 91, 3) := by decide +kernel
theorem dX12_list_180 : decode cX12_list 180 = .ok (.ireturn, 1) := by decide +kernel
theorem dX12_lacks_0 : decode cX12_lacks 0 = .ok (.aload_n 0, 1) := by decide +kernel
theorem dX12_lacks_1 : decode cX12_lacks 1 = .ok (.getfield 91, 3) := by decide +kernel
theorem dX12_lacks_4 : decode cX12_lacks 4 = .ok (.ifCond .ne 7, 3) := by decide +kernel
theorem dX12_lacks_7 : decode cX12_lacks 7 = .ok (.iconst 1, 1) := by decide +kernel
theorem dX12_lacks_8 : decode cX12_lacks 8 = .ok (.goto 4, 3) := by decide +kernel
theorem dX12_lacks_11 : decode cX12_lacks 11 = .ok (.iconst 0, 1) := by decide +kernel
theorem dX12_lacks_12 : decode cX12_lacks 12 = .ok (.ireturn, 1) := by decide +kernel
theorem dX12_isFeud_0 : decode cX12_isFeud 0 = .ok (.iload_n 1, 1) := by decide +kernel
theorem dX12_isFeud_1 : decode cX12_isFeud 1 = .ok (.i2l, 1) := by decide +kernel
theorem dX12_isFeud_2 : decode cX12_isFeud 2 = .ok (.lconst 0, 1) := by decide +kernel
theorem dX12_isFeud_3 : decode cX12_isFeud 3 = .ok (.aload_n 0, 1) := by decide +kernel
theorem dX12_isFeud_4 : decode cX12_isFeud 4 = .ok (.getfield 91, 3) := by decide +kernel
theorem dX12_isFeud_7 : decode cX12_isFeud 7 = .ok (.iconst 1, 1) := by decide +kernel
theorem dX12_isFeud_8 : decode cX12_isFeud 8 = .ok (.isub, 1) := by decide +kernel
theorem dX12_isFeud_9 : decode cX12_isFeud 9 = .ok (.i2l, 1) := by decide +kernel
theorem dX12_isFeud_10 : decode cX12_isFeud 10 = .ok (.invokestatic 62, 3) := by decide +kernel
theorem dX12_isFeud_13 : decode cX12_isFeud 13 = .ok (.ireturn, 1) := by decide +kernel
theorem dX12_isPerson_0 : decode cX12_isPerson 0 = .ok (.iload_n 0, 1) := by decide +kernel
theorem dX12_isPerson_1 : decode cX12_isPerson 1 = .ok (.i2l, 1) := by decide +kernel
theorem dX12_isPerson_2 : decode cX12_isPerson 2 = .ok (.lconst 0, 1) := by decide +kernel
theorem dX12_isPerson_3 : decode cX12_isPerson 3 = .ok (.ldc2_w 77, 3) := by decide +kernel
theorem dX12_isPerson_6 : decode cX12_isPerson 6 = .ok (.invokestatic 62, 3) := by decide +kernel
theorem dX12_isPerson_9 : decode cX12_isPerson 9 = .ok (.ireturn, 1) := by decide +kernel
theorem dX12_arePair_0 : decode cX12_arePair 0 = .ok (.iload_n 0, 1) := by decide +kernel
theorem dX12_arePair_1 : decode cX12_arePair 1 = .ok (.invokestatic 103, 3) := by decide +kernel
theorem dX12_arePair_4 : decode cX12_arePair 4 = .ok (.ifCond .eq 19, 3) := by decide +kernel
theorem dX12_arePair_7 : decode cX12_arePair 7 = .ok (.iload_n 1, 1) := by decide +kernel
theorem dX12_arePair_8 : decode cX12_arePair 8 = .ok (.invokestatic 103, 3) := by decide +kernel
theorem dX12_arePair_11 : decode cX12_arePair 11 = .ok (.ifCond .eq 12, 3) := by decide +kernel
theorem dX12_arePair_14 : decode cX12_arePair 14 = .ok (.iload_n 0, 1) := by decide +kernel
theorem dX12_arePair_15 : decode cX12_arePair 15 = .ok (.iload_n 1, 1) := by decide +kernel
theorem dX12_arePair_16 : decode cX12_arePair 16 = .ok (.if_icmp .eq 7, 3) := by decide +kernel
theorem dX12_arePair_19 : decode cX12_arePair 19 = .ok (.iconst 1, 1) := by decide +kernel
theorem dX12_arePair_20 : decode cX12_arePair 20 = .ok (.goto 4, 3) := by decide +kernel
theorem dX12_arePair_23 : decode cX12_arePair 23 = .ok (.iconst 0, 1) := by decide +kernel
theorem dX12_arePair_24 : decode cX12_arePair 24 = .ok (.ireturn, 1) := by decide +kernel
theorem dX12_isStruck_0 : decode cX12_isStruck 0 = .ok (.aload_n 0, 1) := by decide +kernel
theorem dX12_isStruck_1 : decode cX12_isStruck 1 = .ok (.getfield 16, 3) := by decide +kernel
theorem dX12_isStruck_4 : decode cX12_isStruck 4 = .ok (.bipush 7, 2) := by decide +kernel
theorem dX12_isStruck_6 : decode cX12_isStruck 6 = .ok (.iload_n 1, 1) := by decide +kernel
theorem dX12_isStruck_7 : decode cX12_isStruck 7 = .ok (.imul, 1) := by decide +kernel
theorem dX12_isStruck_8 : decode cX12_isStruck 8 = .ok (.iconst 2, 1) := by decide +kernel
theorem dX12_isStruck_9 : decode cX12_isStruck 9 = .ok (.iadd, 1) := by decide +kernel
theorem dX12_isStruck_10 : decode cX12_isStruck 10 = .ok (.iaload, 1) := by decide +kernel
theorem dX12_isStruck_11 : decode cX12_isStruck 11 = .ok (.iconst 1, 1) := by decide +kernel
theorem dX12_isStruck_12 : decode cX12_isStruck 12 = .ok (.if_icmp .ne 7, 3) := by decide +kernel
theorem dX12_isStruck_15 : decode cX12_isStruck 15 = .ok (.iconst 1, 1) := by decide +kernel
theorem dX12_isStruck_16 : decode cX12_isStruck 16 = .ok (.goto 4, 3) := by decide +kernel
theorem dX12_isStruck_19 : decode cX12_isStruck 19 = .ok (.iconst 0, 1) := by decide +kernel
theorem dX12_isStruck_20 : decode cX12_isStruck 20 = .ok (.ireturn, 1) := by decide +kernel
theorem dX12_isAlive_0 : decode cX12_isAlive 0 = .ok (.aload_n 0, 1) := by decide +kernel
theorem dX12_isAlive_1 : decode cX12_isAlive 1 = .ok (.getfield 19, 3) := by decide +kernel
theorem dX12_isAlive_4 : decode cX12_isAlive 4 = .ok (.iconst 3, 1) := by decide +kernel
theorem dX12_isAlive_5 : decode cX12_isAlive 5 = .ok (.iload_n 1, 1) := by decide +kernel
theorem dX12_isAlive_6 : decode cX12_isAlive 6 = .ok (.imul, 1) := by decide +kernel
theorem dX12_isAlive_7 : decode cX12_isAlive 7 = .ok (.iconst 2, 1) := by decide +kernel
theorem dX12_isAlive_8 : decode cX12_isAlive 8 = .ok (.iadd, 1) := by decide +kernel
theorem dX12_isAlive_9 : decode cX12_isAlive 9 = .ok (.iaload, 1) := by decide +kernel
theorem dX12_isAlive_10 : decode cX12_isAlive 10 = .ok (.iconst 1, 1) := by decide +kernel
theorem dX12_isAlive_11 : decode cX12_isAlive 11 = .ok (.if_icmp .ne 7, 3) := by decide +kernel
theorem dX12_isAlive_14 : decode cX12_isAlive 14 = .ok (.iconst 1, 1) := by decide +kernel
theorem dX12_isAlive_15 : decode cX12_isAlive 15 = .ok (.goto 4, 3) := by decide +kernel
theorem dX12_isAlive_18 : decode cX12_isAlive 18 = .ok (.iconst 0, 1) := by decide +kernel
theorem dX12_isAlive_19 : decode cX12_isAlive 19 = .ok (.ireturn, 1) := by decide +kernel
theorem dX12_ownerOf_0 : decode cX12_ownerOf 0 = .ok (.aload_n 0, 1) := by decide +kernel
theorem dX12_ownerOf_1 : decode cX12_ownerOf 1 = .ok (.getfield 16, 3) := by decide +kernel
theorem dX12_ownerOf_4 : decode cX12_ownerOf 4 = .ok (.bipush 7, 2) := by decide +kernel
theorem dX12_ownerOf_6 : decode cX12_ownerOf 6 = .ok (.iload_n 1, 1) := by decide +kernel
theorem dX12_ownerOf_7 : decode cX12_ownerOf 7 = .ok (.imul, 1) := by decide +kernel
theorem dX12_ownerOf_8 : decode cX12_ownerOf 8 = .ok (.iconst 3, 1) := by decide +kernel
theorem dX12_ownerOf_9 : decode cX12_ownerOf 9 = .ok (.iadd, 1) := by decide +kernel
theorem dX12_ownerOf_10 : decode cX12_ownerOf 10 = .ok (.iload_n 2, 1) := by decide +kernel
theorem dX12_ownerOf_11 : decode cX12_ownerOf 11 = .ok (.iadd, 1) := by decide +kernel
theorem dX12_ownerOf_12 : decode cX12_ownerOf 12 = .ok (.iaload, 1) := by decide +kernel
theorem dX12_ownerOf_13 : decode cX12_ownerOf 13 = .ok (.ireturn, 1) := by decide +kernel
theorem dX12_borrowerOf_0 : decode cX12_borrowerOf 0 = .ok (.aload_n 0, 1) := by decide +kernel
theorem dX12_borrowerOf_1 : decode cX12_borrowerOf 1 = .ok (.getfield 16, 3) := by decide +kernel
theorem dX12_borrowerOf_4 : decode cX12_borrowerOf 4 = .ok (.bipush 7, 2) := by decide +kernel
theorem dX12_borrowerOf_6 : decode cX12_borrowerOf 6 = .ok (.iload_n 1, 1) := by decide +kernel
theorem dX12_borrowerOf_7 : decode cX12_borrowerOf 7 = .ok (.imul, 1) := by decide +kernel
theorem dX12_borrowerOf_8 : decode cX12_borrowerOf 8 = .ok (.iconst 5, 1) := by decide +kernel
theorem dX12_borrowerOf_9 : decode cX12_borrowerOf 9 = .ok (.iadd, 1) := by decide +kernel
theorem dX12_borrowerOf_10 : decode cX12_borrowerOf 10 = .ok (.iload_n 2, 1) := by decide +kernel
theorem dX12_borrowerOf_11 : decode cX12_borrowerOf 11 = .ok (.iadd, 1) := by decide +kernel
theorem dX12_borrowerOf_12 : decode cX12_borrowerOf 12 = .ok (.iaload, 1) := by decide +kernel
theorem dX12_borrowerOf_13 : decode cX12_borrowerOf 13 = .ok (.ireturn, 1) := by decide +kernel
theorem dX12_onSide_0 : decode cX12_onSide 0 = .ok (.aload_n 0, 1) := by decide +kernel
theorem dX12_onSide_1 : decode cX12_onSide 1 = .ok (.iload_n 1, 1) := by decide +kernel
theorem dX12_onSide_2 : decode cX12_onSide 2 = .ok (.iload_n 2, 1) := by decide +kernel
theorem dX12_onSide_3 : decode cX12_onSide 3 = .ok (.invokevirtual 106, 3) := by decide +kernel
theorem dX12_onSide_6 : decode cX12_onSide 6 = .ok (.iconst (-1), 1) := by decide +kernel
theorem dX12_onSide_7 : decode cX12_onSide 7 = .ok (.if_icmp .ne 12, 3) := by decide +kernel
theorem dX12_onSide_10 : decode cX12_onSide 10 = .ok (.aload_n 0, 1) := by decide +kernel
theorem dX12_onSide_11 : decode cX12_onSide 11 = .ok (.iload_n 1, 1) := by decide +kernel
theorem dX12_onSide_12 : decode cX12_onSide 12 = .ok (.iload_n 2, 1) := by decide +kernel
theorem dX12_onSide_13 : decode cX12_onSide 13 = .ok (.invokevirtual 110, 3) := by decide +kernel
theorem dX12_onSide_16 : decode cX12_onSide 16 = .ok (.goto 9, 3) := by decide +kernel
theorem dX12_onSide_19 : decode cX12_onSide 19 = .ok (.aload_n 0, 1) := by decide +kernel
theorem dX12_onSide_20 : decode cX12_onSide 20 = .ok (.iload_n 1, 1) := by decide +kernel
theorem dX12_onSide_21 : decode cX12_onSide 21 = .ok (.iload_n 2, 1) := by decide +kernel
theorem dX12_onSide_22 : decode cX12_onSide 22 = .ok (.invokevirtual 106, 3) := by decide +kernel
theorem dX12_onSide_25 : decode cX12_onSide 25 = .ok (.ireturn, 1) := by decide +kernel
theorem dX12_hasToDo_0 : decode cX12_hasToDo 0 = .ok (.iconst 0, 1) := by decide +kernel
theorem dX12_hasToDo_1 : decode cX12_hasToDo 1 = .ok (.istore_n 3, 1) := by decide +kernel
theorem dX12_hasToDo_2 : decode cX12_hasToDo 2 = .ok (.iconst 3, 1) := by decide +kernel
theorem dX12_hasToDo_3 : decode cX12_hasToDo 3 = .ok (.istore 4, 2) := by decide +kernel
theorem dX12_hasToDo_5 : decode cX12_hasToDo 5 = .ok (.iload 4, 2) := by decide +kernel
theorem dX12_hasToDo_7 : decode cX12_hasToDo 7 = .ok (.bipush 7, 2) := by decide +kernel
theorem dX12_hasToDo_9 : decode cX12_hasToDo 9 = .ok (.if_icmp .ge 35, 3) := by decide +kernel
theorem dX12_hasToDo_12 : decode cX12_hasToDo 12 = .ok (.iload_n 3, 1) := by decide +kernel
theorem dX12_hasToDo_13 : decode cX12_hasToDo 13 = .ok (.ifCond .ne 19, 3) := by decide +kernel
theorem dX12_hasToDo_16 : decode cX12_hasToDo 16 = .ok (.aload_n 0, 1) := by decide +kernel
theorem dX12_hasToDo_17 : decode cX12_hasToDo 17 = .ok (.getfield 16, 3) := by decide +kernel
theorem dX12_hasToDo_20 : decode cX12_hasToDo 20 = .ok (.bipush 7, 2) := by decide +kernel
theorem dX12_hasToDo_22 : decode cX12_hasToDo 22 = .ok (.iload_n 2, 1) := by decide +kernel
theorem dX12_hasToDo_23 : decode cX12_hasToDo 23 = .ok (.imul, 1) := by decide +kernel
theorem dX12_hasToDo_24 : decode cX12_hasToDo 24 = .ok (.iload 4, 2) := by decide +kernel
theorem dX12_hasToDo_26 : decode cX12_hasToDo 26 = .ok (.iadd, 1) := by decide +kernel
theorem dX12_hasToDo_27 : decode cX12_hasToDo 27 = .ok (.iaload, 1) := by decide +kernel
theorem dX12_hasToDo_28 : decode cX12_hasToDo 28 = .ok (.iload_n 1, 1) := by decide +kernel
theorem dX12_hasToDo_29 : decode cX12_hasToDo 29 = .ok (.if_icmp .ne 7, 3) := by decide +kernel
theorem dX12_hasToDo_32 : decode cX12_hasToDo 32 = .ok (.iconst 1, 1) := by decide +kernel
theorem dX12_hasToDo_33 : decode cX12_hasToDo 33 = .ok (.goto 4, 3) := by decide +kernel
theorem dX12_hasToDo_36 : decode cX12_hasToDo 36 = .ok (.iconst 0, 1) := by decide +kernel
theorem dX12_hasToDo_37 : decode cX12_hasToDo 37 = .ok (.istore_n 3, 1) := by decide +kernel
theorem dX12_hasToDo_38 : decode cX12_hasToDo 38 = .ok (.iinc 4 1, 3) := by decide +kernel
theorem dX12_hasToDo_41 : decode cX12_hasToDo 41 = .ok (.goto (-36), 3) := by decide +kernel
theorem dX12_hasToDo_44 : decode cX12_hasToDo 44 = .ok (.iload_n 3, 1) := by decide +kernel
theorem dX12_hasToDo_45 : decode cX12_hasToDo 45 = .ok (.ifCond .eq 15, 3) := by decide +kernel
theorem dX12_hasToDo_48 : decode cX12_hasToDo 48 = .ok (.aload_n 0, 1) := by decide +kernel
theorem dX12_hasToDo_49 : decode cX12_hasToDo 49 = .ok (.iload_n 2, 1) := by decide +kernel
theorem dX12_hasToDo_50 : decode cX12_hasToDo 50 = .ok (.invokevirtual 113, 3) := by decide +kernel
theorem dX12_hasToDo_53 : decode cX12_hasToDo 53 = .ok (.ifCond .ne 7, 3) := by decide +kernel
theorem dX12_hasToDo_56 : decode cX12_hasToDo 56 = .ok (.iconst 1, 1) := by decide +kernel
theorem dX12_hasToDo_57 : decode cX12_hasToDo 57 = .ok (.goto 4, 3) := by decide +kernel
theorem dX12_hasToDo_60 : decode cX12_hasToDo 60 = .ok (.iconst 0, 1) := by decide +kernel
theorem dX12_hasToDo_61 : decode cX12_hasToDo 61 = .ok (.ireturn, 1) := by decide +kernel
theorem dX12_priceOf_0 : decode cX12_priceOf 0 = .ok (.aload_n 0, 1) := by decide +kernel
theorem dX12_priceOf_1 : decode cX12_priceOf 1 = .ok (.getfield 16, 3) := by decide +kernel
theorem dX12_priceOf_4 : decode cX12_priceOf 4 = .ok (.bipush 7, 2) := by decide +kernel
theorem dX12_priceOf_6 : decode cX12_priceOf 6 = .ok (.iload_n 1, 1) := by decide +kernel
theorem dX12_priceOf_7 : decode cX12_priceOf 7 = .ok (.imul, 1) := by decide +kernel
theorem dX12_priceOf_8 : decode cX12_priceOf 8 = .ok (.iaload, 1) := by decide +kernel
theorem dX12_priceOf_9 : decode cX12_priceOf 9 = .ok (.istore_n 3, 1) := by decide +kernel
theorem dX12_priceOf_10 : decode cX12_priceOf 10 = .ok (.aload_n 0, 1) := by decide +kernel
theorem dX12_priceOf_11 : decode cX12_priceOf 11 = .ok (.getfield 16, 3) := by decide +kernel
theorem dX12_priceOf_14 : decode cX12_priceOf 14 = .ok (.bipush 7, 2) := by decide +kernel
theorem dX12_priceOf_16 : decode cX12_priceOf 16 = .ok (.iload_n 1, 1) := by decide +kernel
theorem dX12_priceOf_17 : decode cX12_priceOf 17 = .ok (.imul, 1) := by decide +kernel
theorem dX12_priceOf_18 : decode cX12_priceOf 18 = .ok (.iconst 1, 1) := by decide +kernel
theorem dX12_priceOf_19 : decode cX12_priceOf 19 = .ok (.iadd, 1) := by decide +kernel
theorem dX12_priceOf_20 : decode cX12_priceOf 20 = .ok (.iaload, 1) := by decide +kernel
theorem dX12_priceOf_21 : decode cX12_priceOf 21 = .ok (.istore 4, 2) := by decide +kernel
theorem dX12_priceOf_23 : decode cX12_priceOf 23 = .ok (.iload_n 3, 1) := by decide +kernel
theorem dX12_priceOf_24 : decode cX12_priceOf 24 = .ok (.iconst 2, 1) := by decide +kernel
theorem dX12_priceOf_25 : decode cX12_priceOf 25 = .ok (.if_icmp .ne 7, 3) := by decide +kernel
theorem dX12_priceOf_28 : decode cX12_priceOf 28 = .ok (.iconst 1, 1) := by decide +kernel
theorem dX12_priceOf_29 : decode cX12_priceOf 29 = .ok (.goto 28, 3) := by decide +kernel
theorem dX12_priceOf_32 : decode cX12_priceOf 32 = .ok (.iload_n 3, 1) := by decide +kernel
theorem dX12_priceOf_33 : decode cX12_priceOf 33 = .ok (.iconst 2, 1) := by decide +kernel
theorem dX12_priceOf_34 : decode cX12_priceOf 34 = .ok (.if_icmp .ge 8, 3) := by decide +kernel
theorem dX12_priceOf_37 : decode cX12_priceOf 37 = .ok (.iload 4, 2) := by decide +kernel
theorem dX12_priceOf_39 : decode cX12_priceOf 39 = .ok (.goto 18, 3) := by decide +kernel
theorem dX12_priceOf_42 : decode cX12_priceOf 42 = .ok (.iconst 2, 1) := by decide +kernel
theorem dX12_priceOf_43 : decode cX12_priceOf 43 = .ok (.iload 4, 2) := by decide +kernel
theorem dX12_priceOf_45 : decode cX12_priceOf 45 = .ok (.imul, 1) := by decide +kernel
theorem dX12_priceOf_46 : decode cX12_priceOf 46 = .ok (.iload_n 3, 1) := by decide +kernel
theorem dX12_priceOf_47 : decode cX12_priceOf 47 = .ok (.iconst 4, 1) := by decide +kernel
theorem dX12_priceOf_48 : decode cX12_priceOf 48 = .ok (.if_icmp .ne 7, 3) := by decide +kernel
theorem dX12_priceOf_51 : decode cX12_priceOf 51 = .ok (.iconst 3, 1) := by decide +kernel
theorem dX12_priceOf_52 : decode cX12_priceOf 52 = .ok (.goto 4, 3) := by decide +kernel
theorem dX12_priceOf_55 : decode cX12_priceOf 55 = .ok (.iconst 0, 1) := by decide +kernel
theorem dX12_priceOf_56 : decode cX12_priceOf 56 = .ok (.iadd, 1) := by decide +kernel
theorem dX12_priceOf_57 : decode cX12_priceOf 57 = .ok (.istore 5, 2) := by decide +kernel
theorem dX12_priceOf_59 : decode cX12_priceOf 59 = .ok (.aload_n 0, 1) := by decide +kernel
theorem dX12_priceOf_60 : decode cX12_priceOf 60 = .ok (.iload_n 1, 1) := by decide +kernel
theorem dX12_priceOf_61 : decode cX12_priceOf 61 = .ok (.iconst 1, 1) := by decide +kernel
theorem dX12_priceOf_62 : decode cX12_priceOf 62 = .ok (.iload_n 2, 1) := by decide +kernel
theorem dX12_priceOf_63 : decode cX12_priceOf 63 = .ok (.isub, 1) := by decide +kernel
theorem dX12_priceOf_64 : decode cX12_priceOf 64 = .ok (.invokevirtual 110, 3) := by decide +kernel
theorem dX12_priceOf_67 : decode cX12_priceOf 67 = .ok (.iconst (-1), 1) := by decide +kernel
theorem dX12_priceOf_68 : decode cX12_priceOf 68 = .ok (.if_icmp .ne 12, 3) := by decide +kernel
theorem dX12_priceOf_71 : decode cX12_priceOf 71 = .ok (.iload 5, 2) := by decide +kernel
theorem dX12_priceOf_73 : decode cX12_priceOf 73 = .ok (.iconst 1, 1) := by decide +kernel
theorem dX12_priceOf_74 : decode cX12_priceOf 74 = .ok (.iadd, 1) := by decide +kernel
theorem dX12_priceOf_75 : decode cX12_priceOf 75 = .ok (.iconst 2, 1) := by decide +kernel
theorem dX12_priceOf_76 : decode cX12_priceOf 76 = .ok (.idiv, 1) := by decide +kernel
theorem dX12_priceOf_77 : decode cX12_priceOf 77 = .ok (.goto 5, 3) := by decide +kernel
theorem dX12_priceOf_80 : decode cX12_priceOf 80 = .ok (.iload 5, 2) := by decide +kernel
theorem dX12_priceOf_82 : decode cX12_priceOf 82 = .ok (.ireturn, 1) := by decide +kernel
theorem dX12_tell_0 : decode cX12_tell 0 = .ok (.iload_n 2, 1) := by decide +kernel
theorem dX12_tell_1 : decode cX12_tell 1 = .ok (.tableswitch 119 0 8 #[51, 51, 51, 63, 63, 72, 72, 97, 97], 51) := by decide +kernel
theorem dX12_tell_52 : decode cX12_tell 52 = .ok (.aload_n 0, 1) := by decide +kernel
theorem dX12_tell_53 : decode cX12_tell 53 = .ok (.getfield 16, 3) := by decide +kernel
theorem dX12_tell_56 : decode cX12_tell 56 = .ok (.bipush 7, 2) := by decide +kernel
theorem dX12_tell_58 : decode cX12_tell 58 = .ok (.iload_n 1, 1) := by decide +kernel
theorem dX12_tell_59 : decode cX12_tell 59 = .ok (.imul, 1) := by decide +kernel
theorem dX12_tell_60 : decode cX12_tell 60 = .ok (.iload_n 2, 1) := by decide +kernel
theorem dX12_tell_61 : decode cX12_tell 61 = .ok (.iadd, 1) := by decide +kernel
theorem dX12_tell_62 : decode cX12_tell 62 = .ok (.iaload, 1) := by decide +kernel
theorem dX12_tell_63 : decode cX12_tell 63 = .ok (.ireturn, 1) := by decide +kernel
theorem dX12_tell_64 : decode cX12_tell 64 = .ok (.aload_n 0, 1) := by decide +kernel
theorem dX12_tell_65 : decode cX12_tell 65 = .ok (.iload_n 1, 1) := by decide +kernel
theorem dX12_tell_66 : decode cX12_tell 66 = .ok (.iload_n 2, 1) := by decide +kernel
theorem dX12_tell_67 : decode cX12_tell 67 = .ok (.iconst 3, 1) := by decide +kernel
theorem dX12_tell_68 : decode cX12_tell 68 = .ok (.isub, 1) := by decide +kernel
theorem dX12_tell_69 : decode cX12_tell 69 = .ok (.invokevirtual 116, 3) := by decide +kernel
theorem dX12_tell_72 : decode cX12_tell 72 = .ok (.ireturn, 1) := by decide +kernel
theorem dX12_tell_73 : decode cX12_tell 73 = .ok (.aload_n 0, 1) := by decide +kernel
theorem dX12_tell_74 : decode cX12_tell 74 = .ok (.iload_n 1, 1) := by decide +kernel
theorem dX12_tell_75 : decode cX12_tell 75 = .ok (.iload_n 2, 1) := by decide +kernel
theorem dX12_tell_76 : decode cX12_tell 76 = .ok (.iconst 5, 1) := by decide +kernel
theorem dX12_tell_77 : decode cX12_tell 77 = .ok (.isub, 1) := by decide +kernel
theorem dX12_tell_78 : decode cX12_tell 78 = .ok (.invokevirtual 106, 3) := by decide +kernel
theorem dX12_tell_81 : decode cX12_tell 81 = .ok (.iconst (-1), 1) := by decide +kernel
theorem dX12_tell_82 : decode cX12_tell 82 = .ok (.if_icmp .ne 7, 3) := by decide +kernel
theorem dX12_tell_85 : decode cX12_tell 85 = .ok (.iconst (-1), 1) := by decide +kernel
theorem dX12_tell_86 : decode cX12_tell 86 = .ok (.goto 11, 3) := by decide +kernel
theorem dX12_tell_89 : decode cX12_tell 89 = .ok (.aload_n 0, 1) := by decide +kernel
theorem dX12_tell_90 : decode cX12_tell 90 = .ok (.iload_n 1, 1) := by decide +kernel
theorem dX12_tell_91 : decode cX12_tell 91 = .ok (.iload_n 2, 1) := by decide +kernel
theorem dX12_tell_92 : decode cX12_tell 92 = .ok (.iconst 5, 1) := by decide +kernel
theorem dX12_tell_93 : decode cX12_tell 93 = .ok (.isub, 1) := by decide +kernel
theorem dX12_tell_94 : decode cX12_tell 94 = .ok (.invokevirtual 110, 3) := by decide +kernel
theorem dX12_tell_97 : decode cX12_tell 97 = .ok (.ireturn, 1) := by decide +kernel
theorem dX12_tell_98 : decode cX12_tell 98 = .ok (.aload_n 0, 1) := by decide +kernel
theorem dX12_tell_99 : decode cX12_tell 99 = .ok (.iload_n 1, 1) := by decide +kernel
theorem dX12_tell_100 : decode cX12_tell 100 = .ok (.invokevirtual 113, 3) := by decide +kernel
theorem dX12_tell_103 : decode cX12_tell 103 = .ok (.ifCond .eq 7, 3) := by decide +kernel
theorem dX12_tell_106 : decode cX12_tell 106 = .ok (.iconst (-1), 1) := by decide +kernel
theorem dX12_tell_107 : decode cX12_tell 107 = .ok (.goto 12, 3) := by decide +kernel
theorem dX12_tell_110 : decode cX12_tell 110 = .ok (.aload_n 0, 1) := by decide +kernel
theorem dX12_tell_111 : decode cX12_tell 111 = .ok (.iload_n 1, 1) := by decide +kernel
theorem dX12_tell_112 : decode cX12_tell 112 = .ok (.iload_n 2, 1) := by decide +kernel
theorem dX12_tell_113 : decode cX12_tell 113 = .ok (.bipush 7, 2) := by decide +kernel
theorem dX12_tell_115 : decode cX12_tell 115 = .ok (.isub, 1) := by decide +kernel
theorem dX12_tell_116 : decode cX12_tell 116 = .ok (.invokevirtual 119, 3) := by decide +kernel
theorem dX12_tell_119 : decode cX12_tell 119 = .ok (.ireturn, 1) := by decide +kernel
theorem dX12_tell_120 : decode cX12_tell 120 = .ok (.bipush (-102), 2) := by decide +kernel
theorem dX12_tell_122 : decode cX12_tell 122 = .ok (.ireturn, 1) := by decide +kernel
theorem dX12_about_0 : decode cX12_about 0 = .ok (.aload_n 0, 1) := by decide +kernel
theorem dX12_about_1 : decode cX12_about 1 = .ok (.iload_n 1, 1) := by decide +kernel
theorem dX12_about_2 : decode cX12_about 2 = .ok (.invokevirtual 122, 3) := by decide +kernel
theorem dX12_about_5 : decode cX12_about 5 = .ok (.ifCond .eq 12, 3) := by decide +kernel
theorem dX12_about_8 : decode cX12_about 8 = .ok (.aload_n 0, 1) := by decide +kernel
theorem dX12_about_9 : decode cX12_about 9 = .ok (.iload_n 1, 1) := by decide +kernel
theorem dX12_about_10 : decode cX12_about 10 = .ok (.iload_n 2, 1) := by decide +kernel
theorem dX12_about_11 : decode cX12_about 11 = .ok (.invokevirtual 125, 3) := by decide +kernel
theorem dX12_about_14 : decode cX12_about 14 = .ok (.goto 5, 3) := by decide +kernel
theorem dX12_about_17 : decode cX12_about 17 = .ok (.bipush (-101), 2) := by decide +kernel
theorem dX12_about_19 : decode cX12_about 19 = .ok (.ireturn, 1) := by decide +kernel
theorem dX12_as_0 : decode cX12_as 0 = .ok (.aload_n 0, 1) := by decide +kernel
theorem dX12_as_1 : decode cX12_as 1 = .ok (.iload_n 1, 1) := by decide +kernel
theorem dX12_as_2 : decode cX12_as 2 = .ok (.invokevirtual 122, 3) := by decide +kernel
theorem dX12_as_5 : decode cX12_as 5 = .ok (.ifCond .ne 6, 3) := by decide +kernel
theorem dX12_as_8 : decode cX12_as 8 = .ok (.bipush (-101), 2) := by decide +kernel
theorem dX12_as_10 : decode cX12_as 10 = .ok (.ireturn, 1) := by decide +kernel
theorem dX12_as_11 : decode cX12_as 11 = .ok (.iload_n 2, 1) := by decide +kernel
theorem dX12_as_12 : decode cX12_as 12 = .ok (.i2l, 1) := by decide +kernel
theorem dX12_as_13 : decode cX12_as 13 = .ok (.lconst 0, 1) := by decide +kernel
theorem dX12_as_14 : decode cX12_as 14 = .ok (.ldc2_w 128, 3) := by decide +kernel
theorem dX12_as_17 : decode cX12_as 17 = .ok (.invokestatic 62, 3) := by decide +kernel
theorem dX12_as_20 : decode cX12_as 20 = .ok (.ifCond .ne 6, 3) := by decide +kernel
theorem dX12_as_23 : decode cX12_as 23 = .ok (.bipush (-102), 2) := by decide +kernel
theorem dX12_as_25 : decode cX12_as 25 = .ok (.ireturn, 1) := by decide +kernel
theorem dX12_as_26 : decode cX12_as 26 = .ok (.aload_n 0, 1) := by decide +kernel
theorem dX12_as_27 : decode cX12_as 27 = .ok (.getfield 16, 3) := by decide +kernel
theorem dX12_as_30 : decode cX12_as 30 = .ok (.bipush 7, 2) := by decide +kernel
theorem dX12_as_32 : decode cX12_as 32 = .ok (.iload_n 1, 1) := by decide +kernel
theorem dX12_as_33 : decode cX12_as 33 = .ok (.imul, 1) := by decide +kernel
theorem dX12_as_34 : decode cX12_as 34 = .ok (.iaload, 1) := by decide +kernel
theorem dX12_as_35 : decode cX12_as 35 = .ok (.istore_n 3, 1) := by decide +kernel
theorem dX12_as_36 : decode cX12_as 36 = .ok (.iload_n 2, 1) := by decide +kernel
theorem dX12_as_37 : decode cX12_as 37 = .ok (.ifCond .eq 18, 3) := by decide +kernel
theorem dX12_as_40 : decode cX12_as 40 = .ok (.iload_n 2, 1) := by decide +kernel
theorem dX12_as_41 : decode cX12_as 41 = .ok (.iload_n 3, 1) := by decide +kernel
theorem dX12_as_42 : decode cX12_as 42 = .ok (.if_icmp .eq 13, 3) := by decide +kernel
theorem dX12_as_45 : decode cX12_as 45 = .ok (.iload_n 2, 1) := by decide +kernel
theorem dX12_as_46 : decode cX12_as 46 = .ok (.iconst 3, 1) := by decide +kernel
theorem dX12_as_47 : decode cX12_as 47 = .ok (.if_icmp .ne 12, 3) := by decide +kernel
theorem dX12_as_50 : decode cX12_as 50 = .ok (.iload_n 3, 1) := by decide +kernel
theorem dX12_as_51 : decode cX12_as 51 = .ok (.iconst 4, 1) := by decide +kernel
theorem dX12_as_52 : decode cX12_as 52 = .ok (.if_icmp .ne 7, 3) := by decide +kernel
theorem dX12_as_55 : decode cX12_as 55 = .ok (.iconst 1, 1) := by decide +kernel
theorem dX12_as_56 : decode cX12_as 56 = .ok (.goto 4, 3) := by decide +kernel
theorem dX12_as_59 : decode cX12_as 59 = .ok (.iconst 0, 1) := by decide +kernel
theorem dX12_as_60 : decode cX12_as 60 = .ok (.istore 4, 2) := by decide +kernel
theorem dX12_as_62 : decode cX12_as 62 = .ok (.iload 4, 2) := by decide +kernel
theorem dX12_as_64 : decode cX12_as 64 = .ok (.ifCond .eq 7, 3) := by decide +kernel
theorem dX12_as_67 : decode cX12_as 67 = .ok (.iload_n 1, 1) := by decide +kernel
theorem dX12_as_68 : decode cX12_as 68 = .ok (.goto 4, 3) := by decide +kernel
theorem dX12_as_71 : decode cX12_as 71 = .ok (.iconst (-1), 1) := by decide +kernel
theorem dX12_as_72 : decode cX12_as 72 = .ok (.ireturn, 1) := by decide +kernel
theorem dX12_sidesOf_0 : decode cX12_sidesOf 0 = .ok (.iconst 0, 1) := by decide +kernel
theorem dX12_sidesOf_1 : decode cX12_sidesOf 1 = .ok (.istore_n 2, 1) := by decide +kernel
theorem dX12_sidesOf_2 : decode cX12_sidesOf 2 = .ok (.iconst 0, 1) := by decide +kernel
theorem dX12_sidesOf_3 : decode cX12_sidesOf 3 = .ok (.istore_n 3, 1) := by decide +kernel
theorem dX12_sidesOf_4 : decode cX12_sidesOf 4 = .ok (.iload_n 3, 1) := by decide +kernel
theorem dX12_sidesOf_5 : decode cX12_sidesOf 5 = .ok (.iconst 2, 1) := by decide +kernel
theorem dX12_sidesOf_6 : decode cX12_sidesOf 6 = .ok (.aload_n 0, 1) := by decide +kernel
theorem dX12_sidesOf_7 : decode cX12_sidesOf 7 = .ok (.getfield 91, 3) := by decide +kernel
theorem dX12_sidesOf_10 : decode cX12_sidesOf 10 = .ok (.imul, 1) := by decide +kernel
theorem dX12_sidesOf_11 : decode cX12_sidesOf 11 = .ok (.if_icmp .ge 41, 3) := by decide +kernel
theorem dX12_sidesOf_14 : decode cX12_sidesOf 14 = .ok (.iload_n 2, 1) := by decide +kernel
theorem dX12_sidesOf_15 : decode cX12_sidesOf 15 = .ok (.aload_n 0, 1) := by decide +kernel
theorem dX12_sidesOf_16 : decode cX12_sidesOf 16 = .ok (.iload_n 3, 1) := by decide +kernel
theorem dX12_sidesOf_17 : decode cX12_sidesOf 17 = .ok (.iconst 2, 1) := by decide +kernel
theorem dX12_sidesOf_18 : decode cX12_sidesOf 18 = .ok (.idiv, 1) := by decide +kernel
theorem dX12_sidesOf_19 : decode cX12_sidesOf 19 = .ok (.invokevirtual 113, 3) := by decide +kernel
theorem dX12_sidesOf_22 : decode cX12_sidesOf 22 = .ok (.ifCond .ne 21, 3) := by decide +kernel
theorem dX12_sidesOf_25 : decode cX12_sidesOf 25 = .ok (.aload_n 0, 1) := by decide +kernel
theorem dX12_sidesOf_26 : decode cX12_sidesOf 26 = .ok (.iload_n 3, 1) := by decide +kernel
theorem dX12_sidesOf_27 : decode cX12_sidesOf 27 = .ok (.iconst 2, 1) := by decide +kernel
theorem dX12_sidesOf_28 : decode cX12_sidesOf 28 = .ok (.idiv, 1) := by decide +kernel
theorem dX12_sidesOf_29 : decode cX12_sidesOf 29 = .ok (.iload_n 3, 1) := by decide +kernel
theorem dX12_sidesOf_30 : decode cX12_sidesOf 30 = .ok (.iconst 2, 1) := by decide +kernel
theorem dX12_sidesOf_31 : decode cX12_sidesOf 31 = .ok (.irem, 1) := by decide +kernel
theorem dX12_sidesOf_32 : decode cX12_sidesOf 32 = .ok (.invokevirtual 116, 3) := by decide +kernel
theorem dX12_sidesOf_35 : decode cX12_sidesOf 35 = .ok (.iload_n 1, 1) := by decide +kernel
theorem dX12_sidesOf_36 : decode cX12_sidesOf 36 = .ok (.if_icmp .ne 7, 3) := by decide +kernel
theorem dX12_sidesOf_39 : decode cX12_sidesOf 39 = .ok (.iconst 1, 1) := by decide +kernel
theorem dX12_sidesOf_40 : decode cX12_sidesOf 40 = .ok (.goto 4, 3) := by decide +kernel
theorem dX12_sidesOf_43 : decode cX12_sidesOf 43 = .ok (.iconst 0, 1) := by decide +kernel
theorem dX12_sidesOf_44 : decode cX12_sidesOf 44 = .ok (.iadd, 1) := by decide +kernel
theorem dX12_sidesOf_45 : decode cX12_sidesOf 45 = .ok (.istore_n 2, 1) := by decide +kernel
theorem dX12_sidesOf_46 : decode cX12_sidesOf 46 = .ok (.iinc 3 1, 3) := by decide +kernel
theorem dX12_sidesOf_49 : decode cX12_sidesOf 49 = .ok (.goto (-45), 3) := by decide +kernel
theorem dX12_sidesOf_52 : decode cX12_sidesOf 52 = .ok (.iload_n 2, 1) := by decide +kernel
theorem dX12_sidesOf_53 : decode cX12_sidesOf 53 = .ok (.ireturn, 1) := by decide +kernel
theorem dX12_harmsBy_0 : decode cX12_harmsBy 0 = .ok (.iconst 0, 1) := by decide +kernel
theorem dX12_harmsBy_1 : decode cX12_harmsBy 1 = .ok (.istore_n 3, 1) := by decide +kernel
theorem dX12_harmsBy_2 : decode cX12_harmsBy 2 = .ok (.iconst 0, 1) := by decide +kernel
theorem dX12_harmsBy_3 : decode cX12_harmsBy 3 = .ok (.istore 4, 2) := by decide +kernel
theorem dX12_harmsBy_5 : decode cX12_harmsBy 5 = .ok (.iload 4, 2) := by decide +kernel
theorem dX12_harmsBy_7 : decode cX12_harmsBy 7 = .ok (.aload_n 0, 1) := by decide +kernel
theorem dX12_harmsBy_8 : decode cX12_harmsBy 8 = .ok (.getfield 94, 3) := by decide +kernel
theorem dX12_harmsBy_11 : decode cX12_harmsBy 11 = .ok (.if_icmp .ge 32, 3) := by decide +kernel
theorem dX12_harmsBy_14 : decode cX12_harmsBy 14 = .ok (.iload_n 3, 1) := by decide +kernel
theorem dX12_harmsBy_15 : decode cX12_harmsBy 15 = .ok (.aload_n 0, 1) := by decide +kernel
theorem dX12_harmsBy_16 : decode cX12_harmsBy 16 = .ok (.getfield 22, 3) := by decide +kernel
theorem dX12_harmsBy_19 : decode cX12_harmsBy 19 = .ok (.iconst 2, 1) := by decide +kernel
theorem dX12_harmsBy_20 : decode cX12_harmsBy 20 = .ok (.iload 4, 2) := by decide +kernel
theorem dX12_harmsBy_22 : decode cX12_harmsBy 22 = .ok (.imul, 1) := by decide +kernel
theorem dX12_harmsBy_23 : decode cX12_harmsBy 23 = .ok (.iload_n 2, 1) := by decide +kernel
theorem dX12_harmsBy_24 : decode cX12_harmsBy 24 = .ok (.iadd, 1) := by decide +kernel
theorem dX12_harmsBy_25 : decode cX12_harmsBy 25 = .ok (.iaload, 1) := by decide +kernel
theorem dX12_harmsBy_26 : decode cX12_harmsBy 26 = .ok (.iload_n 1, 1) := by decide +kernel
theorem dX12_harmsBy_27 : decode cX12_harmsBy 27 = .ok (.if_icmp .ne 7, 3) := by decide +kernel
theorem dX12_harmsBy_30 : decode cX12_harmsBy 30 = .ok (.iconst 1, 1) := by decide +kernel
theorem dX12_harmsBy_31 : decode cX12_harmsBy 31 = .ok (.goto 4, 3) := by decide +kernel
theorem dX12_harmsBy_34 : decode cX12_harmsBy 34 = .ok (.iconst 0, 1) := by decide +kernel
theorem dX12_harmsBy_35 : decode cX12_harmsBy 35 = .ok (.iadd, 1) := by decide +kernel
theorem dX12_harmsBy_36 : decode cX12_harmsBy 36 = .ok (.istore_n 3, 1) := by decide +kernel
theorem dX12_harmsBy_37 : decode cX12_harmsBy 37 = .ok (.iinc 4 1, 3) := by decide +kernel
theorem dX12_harmsBy_40 : decode cX12_harmsBy 40 = .ok (.goto (-35), 3) := by decide +kernel
theorem dX12_harmsBy_43 : decode cX12_harmsBy 43 = .ok (.iload_n 3, 1) := by decide +kernel
theorem dX12_harmsBy_44 : decode cX12_harmsBy 44 = .ok (.ireturn, 1) := by decide +kernel
theorem dX12_tellMan_0 : decode cX12_tellMan 0 = .ok (.iload_n 2, 1) := by decide +kernel
theorem dX12_tellMan_1 : decode cX12_tellMan 1 = .ok (.tableswitch 65 0 5 #[39, 39, 39, 50, 56, 56], 39) := by decide +kernel
theorem dX12_tellMan_40 : decode cX12_tellMan 40 = .ok (.aload_n 0, 1) := by decide +kernel
theorem dX12_tellMan_41 : decode cX12_tellMan 41 = .ok (.getfield 19, 3) := by decide +kernel
theorem dX12_tellMan_44 : decode cX12_tellMan 44 = .ok (.iconst 3, 1) := by decide +kernel
theorem dX12_tellMan_45 : decode cX12_tellMan 45 = .ok (.iload_n 1, 1) := by decide +kernel
theorem dX12_tellMan_46 : decode cX12_tellMan 46 = .ok (.imul, 1) := by decide +kernel
theorem dX12_tellMan_47 : decode cX12_tellMan 47 = .ok (.iload_n 2, 1) := by decide +kernel
theorem dX12_tellMan_48 : decode cX12_tellMan 48 = .ok (.iadd, 1) := by decide +kernel
theorem dX12_tellMan_49 : decode cX12_tellMan 49 = .ok (.iaload, 1) := by decide +kernel
theorem dX12_tellMan_50 : decode cX12_tellMan 50 = .ok (.ireturn, 1) := by decide +kernel
theorem dX12_tellMan_51 : decode cX12_tellMan 51 = .ok (.aload_n 0, 1) := by decide +kernel
theorem dX12_tellMan_52 : decode cX12_tellMan 52 = .ok (.iload_n 1, 1) := by decide +kernel
theorem dX12_tellMan_53 : decode cX12_tellMan 53 = .ok (.invokevirtual 130, 3) := by decide +kernel
theorem dX12_tellMan_56 : decode cX12_tellMan 56 = .ok (.ireturn, 1) := by decide +kernel
theorem dX12_tellMan_57 : decode cX12_tellMan 57 = .ok (.aload_n 0, 1) := by decide +kernel
theorem dX12_tellMan_58 : decode cX12_tellMan 58 = .ok (.iload_n 1, 1) := by decide +kernel
theorem dX12_tellMan_59 : decode cX12_tellMan 59 = .ok (.iload_n 2, 1) := by decide +kernel
theorem dX12_tellMan_60 : decode cX12_tellMan 60 = .ok (.iconst 4, 1) := by decide +kernel
theorem dX12_tellMan_61 : decode cX12_tellMan 61 = .ok (.isub, 1) := by decide +kernel
theorem dX12_tellMan_62 : decode cX12_tellMan 62 = .ok (.invokevirtual 133, 3) := by decide +kernel
theorem dX12_tellMan_65 : decode cX12_tellMan 65 = .ok (.ireturn, 1) := by decide +kernel
theorem dX12_tellMan_66 : decode cX12_tellMan 66 = .ok (.bipush (-102), 2) := by decide +kernel
theorem dX12_tellMan_68 : decode cX12_tellMan 68 = .ok (.ireturn, 1) := by decide +kernel
theorem dX12_person_0 : decode cX12_person 0 = .ok (.iload_n 1, 1) := by decide +kernel
theorem dX12_person_1 : decode cX12_person 1 = .ok (.invokestatic 103, 3) := by decide +kernel
theorem dX12_person_4 : decode cX12_person 4 = .ok (.ifCond .eq 12, 3) := by decide +kernel
theorem dX12_person_7 : decode cX12_person 7 = .ok (.aload_n 0, 1) := by decide +kernel
theorem dX12_person_8 : decode cX12_person 8 = .ok (.iload_n 1, 1) := by decide +kernel
theorem dX12_person_9 : decode cX12_person 9 = .ok (.iload_n 2, 1) := by decide +kernel
theorem dX12_person_10 : decode cX12_person 10 = .ok (.invokevirtual 136, 3) := by decide +kernel
theorem dX12_person_13 : decode cX12_person 13 = .ok (.goto 5, 3) := by decide +kernel
theorem dX12_person_16 : decode cX12_person 16 = .ok (.bipush (-101), 2) := by decide +kernel
theorem dX12_person_18 : decode cX12_person 18 = .ok (.ireturn, 1) := by decide +kernel
theorem dX12_heir_0 : decode cX12_heir 0 = .ok (.iload_n 1, 1) := by decide +kernel
theorem dX12_heir_1 : decode cX12_heir 1 = .ok (.invokestatic 103, 3) := by decide +kernel
theorem dX12_heir_4 : decode cX12_heir 4 = .ok (.ifCond .eq 20, 3) := by decide +kernel
theorem dX12_heir_7 : decode cX12_heir 7 = .ok (.iload_n 2, 1) := by decide +kernel
theorem dX12_heir_8 : decode cX12_heir 8 = .ok (.iconst (-1), 1) := by decide +kernel
theorem dX12_heir_9 : decode cX12_heir 9 = .ok (.if_icmp .eq 10, 3) := by decide +kernel
theorem dX12_heir_12 : decode cX12_heir 12 = .ok (.iload_n 2, 1) := by decide +kernel
theorem dX12_heir_13 : decode cX12_heir 13 = .ok (.invokestatic 103, 3) := by decide +kernel
theorem dX12_heir_16 : decode cX12_heir 16 = .ok (.ifCond .eq 8, 3) := by decide +kernel
theorem dX12_heir_19 : decode cX12_heir 19 = .ok (.iload_n 1, 1) := by decide +kernel
theorem dX12_heir_20 : decode cX12_heir 20 = .ok (.iload_n 2, 1) := by decide +kernel
theorem dX12_heir_21 : decode cX12_heir 21 = .ok (.if_icmp .ne 6, 3) := by decide +kernel
theorem dX12_heir_24 : decode cX12_heir 24 = .ok (.bipush (-101), 2) := by decide +kernel
theorem dX12_heir_26 : decode cX12_heir 26 = .ok (.ireturn, 1) := by decide +kernel
theorem dX12_heir_27 : decode cX12_heir 27 = .ok (.aload_n 0, 1) := by decide +kernel
theorem dX12_heir_28 : decode cX12_heir 28 = .ok (.invokevirtual 139, 3) := by decide +kernel
theorem dX12_heir_31 : decode cX12_heir 31 = .ok (.ifCond .ne 11, 3) := by decide +kernel
theorem dX12_heir_34 : decode cX12_heir 34 = .ok (.aload_n 0, 1) := by decide +kernel
theorem dX12_heir_35 : decode cX12_heir 35 = .ok (.iload_n 1, 1) := by decide +kernel
theorem dX12_heir_36 : decode cX12_heir 36 = .ok (.invokevirtual 143, 3) := by decide +kernel
theorem dX12_heir_39 : decode cX12_heir 39 = .ok (.ifCond .ne 6, 3) := by decide +kernel
theorem dX12_heir_42 : decode cX12_heir 42 = .ok (.bipush (-103), 2) := by decide +kernel
theorem dX12_heir_44 : decode cX12_heir 44 = .ok (.ireturn, 1) := by decide +kernel
theorem dX12_heir_45 : decode cX12_heir 45 = .ok (.aload_n 0, 1) := by decide +kernel
theorem dX12_heir_46 : decode cX12_heir 46 = .ok (.getfield 19, 3) := by decide +kernel
theorem dX12_heir_49 : decode cX12_heir 49 = .ok (.iconst 3, 1) := by decide +kernel
theorem dX12_heir_50 : decode cX12_heir 50 = .ok (.iload_n 1, 1) := by decide +kernel
theorem dX12_heir_51 : decode cX12_heir 51 = .ok (.imul, 1) := by decide +kernel
theorem dX12_heir_52 : decode cX12_heir 52 = .ok (.iconst 1, 1) := by decide +kernel
theorem dX12_heir_53 : decode cX12_heir 53 = .ok (.iadd, 1) := by decide +kernel
theorem dX12_heir_54 : decode cX12_heir 54 = .ok (.iaload, 1) := by decide +kernel
theorem dX12_heir_55 : decode cX12_heir 55 = .ok (.istore_n 3, 1) := by decide +kernel
theorem dX12_heir_56 : decode cX12_heir 56 = .ok (.aload_n 0, 1) := by decide +kernel
theorem dX12_heir_57 : decode cX12_heir 57 = .ok (.getfield 19, 3) := by decide +kernel
theorem dX12_heir_60 : decode cX12_heir 60 = .ok (.iconst 3, 1) := by decide +kernel
theorem dX12_heir_61 : decode cX12_heir 61 = .ok (.iload_n 1, 1) := by decide +kernel
theorem dX12_heir_62 : decode cX12_heir 62 = .ok (.imul, 1) := by decide +kernel
theorem dX12_heir_63 : decode cX12_heir 63 = .ok (.iconst 1, 1) := by decide +kernel
theorem dX12_heir_64 : decode cX12_heir 64 = .ok (.iadd, 1) := by decide +kernel
theorem dX12_heir_65 : decode cX12_heir 65 = .ok (.iload_n 2, 1) := by decide +kernel
theorem dX12_heir_66 : decode cX12_heir 66 = .ok (.iastore, 1) := by decide +kernel
theorem dX12_heir_67 : decode cX12_heir 67 = .ok (.iload_n 3, 1) := by decide +kernel
theorem dX12_heir_68 : decode cX12_heir 68 = .ok (.ireturn, 1) := by decide +kernel
theorem dX12_capped_0 : decode cX12_capped 0 = .ok (.iload_n 0, 1) := by decide +kernel
theorem dX12_capped_1 : decode cX12_capped 1 = .ok (.bipush 99, 2) := by decide +kernel
theorem dX12_capped_3 : decode cX12_capped 3 = .ok (.if_icmp .le 8, 3) := by decide +kernel
theorem dX12_capped_6 : decode cX12_capped 6 = .ok (.bipush 99, 2) := by decide +kernel
theorem dX12_capped_8 : decode cX12_capped 8 = .ok (.goto 4, 3) := by decide +kernel
theorem dX12_capped_11 : decode cX12_capped 11 = .ok (.iload_n 0, 1) := by decide +kernel
theorem dX12_capped_12 : decode cX12_capped 12 = .ok (.ireturn, 1) := by decide +kernel
theorem dX12_canBuy_0 : decode cX12_canBuy 0 = .ok (.aload_n 0, 1) := by decide +kernel
theorem dX12_canBuy_1 : decode cX12_canBuy 1 = .ok (.iload_n 2, 1) := by decide +kernel
theorem dX12_canBuy_2 : decode cX12_canBuy 2 = .ok (.invokevirtual 113, 3) := by decide +kernel
theorem dX12_canBuy_5 : decode cX12_canBuy 5 = .ok (.ifCond .ne 51, 3) := by decide +kernel
theorem dX12_canBuy_8 : decode cX12_canBuy 8 = .ok (.aload_n 0, 1) := by decide +kernel
theorem dX12_canBuy_9 : decode cX12_canBuy 9 = .ok (.iload_n 2, 1) := by decide +kernel
theorem dX12_canBuy_10 : decode cX12_canBuy 10 = .ok (.iload_n 3, 1) := by decide +kernel
theorem dX12_canBuy_11 : decode cX12_canBuy 11 = .ok (.invokevirtual 106, 3) := by decide +kernel
theorem dX12_canBuy_14 : decode cX12_canBuy 14 = .ok (.iconst (-1), 1) := by decide +kernel
theorem dX12_canBuy_15 : decode cX12_canBuy 15 = .ok (.if_icmp .ne 41, 3) := by decide +kernel
theorem dX12_canBuy_18 : decode cX12_canBuy 18 = .ok (.aload_n 0, 1) := by decide +kernel
theorem dX12_canBuy_19 : decode cX12_canBuy 19 = .ok (.iload_n 1, 1) := by decide +kernel
theorem dX12_canBuy_20 : decode cX12_canBuy 20 = .ok (.invokevirtual 143, 3) := by decide +kernel
theorem dX12_canBuy_23 : decode cX12_canBuy 23 = .ok (.ifCond .eq 33, 3) := by decide +kernel
theorem dX12_canBuy_26 : decode cX12_canBuy 26 = .ok (.aload_n 0, 1) := by decide +kernel
theorem dX12_canBuy_27 : decode cX12_canBuy 27 = .ok (.iload_n 1, 1) := by decide +kernel
theorem dX12_canBuy_28 : decode cX12_canBuy 28 = .ok (.iload_n 2, 1) := by decide +kernel
theorem dX12_canBuy_29 : decode cX12_canBuy 29 = .ok (.invokevirtual 146, 3) := by decide +kernel
theorem dX12_canBuy_32 : decode cX12_canBuy 32 = .ok (.ifCond .ne 24, 3) := by decide +kernel
theorem dX12_canBuy_35 : decode cX12_canBuy 35 = .ok (.aload_n 0, 1) := by decide +kernel
theorem dX12_canBuy_36 : decode cX12_canBuy 36 = .ok (.getfield 19, 3) := by decide +kernel
theorem dX12_canBuy_39 : decode cX12_canBuy 39 = .ok (.iconst 3, 1) := by decide +kernel
theorem dX12_canBuy_40 : decode cX12_canBuy 40 = .ok (.iload_n 1, 1) := by decide +kernel
theorem dX12_canBuy_41 : decode cX12_canBuy 41 = .ok (.imul, 1) := by decide +kernel
theorem dX12_canBuy_42 : decode cX12_canBuy 42 = .ok (.iaload, 1) := by decide +kernel
theorem dX12_canBuy_43 : decode cX12_canBuy 43 = .ok (.aload_n 0, 1) := by decide +kernel
theorem dX12_canBuy_44 : decode cX12_canBuy 44 = .ok (.iload_n 2, 1) := by decide +kernel
theorem dX12_canBuy_45 : decode cX12_canBuy 45 = .ok (.iload_n 3, 1) := by decide +kernel
theorem dX12_canBuy_46 : decode cX12_canBuy 46 = .ok (.invokevirtual 119, 3) := by decide +kernel
theorem dX12_canBuy_49 : decode cX12_canBuy 49 = .ok (.if_icmp .lt 7, 3) := by decide +kernel
theorem dX12_canBuy_52 : decode cX12_canBuy 52 = .ok (.iconst 1, 1) := by decide +kernel
theorem dX12_canBuy_53 : decode cX12_canBuy 53 = .ok (.goto 4, 3) := by decide +kernel
theorem dX12_canBuy_56 : decode cX12_canBuy 56 = .ok (.iconst 0, 1) := by decide +kernel
theorem dX12_canBuy_57 : decode cX12_canBuy 57 = .ok (.ireturn, 1) := by decide +kernel
theorem dX12_bought_0 : decode cX12_bought 0 = .ok (.aload_n 0, 1) := by decide +kernel
theorem dX12_bought_1 : decode cX12_bought 1 = .ok (.iload_n 2, 1) := by decide +kernel
theorem dX12_bought_2 : decode cX12_bought 2 = .ok (.iload_n 3, 1) := by decide +kernel
theorem dX12_bought_3 : decode cX12_bought 3 = .ok (.invokevirtual 119, 3) := by decide +kernel
theorem dX12_bought_6 : decode cX12_bought 6 = .ok (.istore 4, 2) := by decide +kernel
theorem dX12_bought_8 : decode cX12_bought 8 = .ok (.aload_n 0, 1) := by decide +kernel
theorem dX12_bought_9 : decode cX12_bought 9 = .ok (.iload_n 2, 1) := by decide +kernel
theorem dX12_bought_10 : decode cX12_bought 10 = .ok (.iload_n 3, 1) := by decide +kernel
theorem dX12_bought_11 : decode cX12_bought 11 = .ok (.invokevirtual 110, 3) := by decide +kernel
theorem dX12_bought_14 : decode cX12_bought 14 = .ok (.istore 5, 2) := by decide +kernel
theorem dX12_bought_16 : decode cX12_bought 16 = .ok (.aload_n 0, 1) := by decide +kernel
theorem dX12_bought_17 : decode cX12_bought 17 = .ok (.getfield 19, 3) := by decide +kernel
theorem dX12_bought_20 : decode cX12_bought 20 = .ok (.iconst 3, 1) := by decide +kernel
theorem dX12_bought_21 : decode cX12_bought 21 = .ok (.iload_n 1, 1) := by decide +kernel
theorem dX12_bought_22 : decode cX12_bought 22 = .ok (.imul, 1) := by decide +kernel
theorem dX12_bought_23 : decode cX12_bought 23 = .ok (.dup2, 1) := by decide +kernel
theorem dX12_bought_24 : decode cX12_bought 24 = .ok (.iaload, 1) := by decide +kernel
theorem dX12_bought_25 : decode cX12_bought 25 = .ok (.iload 4, 2) := by decide +kernel
theorem dX12_bought_27 : decode cX12_bought 27 = .ok (.isub, 1) := by decide +kernel
theorem dX12_bought_28 : decode cX12_bought 28 = .ok (.iastore, 1) := by decide +kernel
theorem dX12_bought_29 : decode cX12_bought 29 = .ok (.iload 5, 2) := by decide +kernel
theorem dX12_bought_31 : decode cX12_bought 31 = .ok (.iconst (-1), 1) := by decide +kernel
theorem dX12_bought_32 : decode cX12_bought 32 = .ok (.if_icmp .eq 27, 3) := by decide +kernel
theorem dX12_bought_35 : decode cX12_bought 35 = .ok (.aload_n 0, 1) := by decide +kernel
theorem dX12_bought_36 : decode cX12_bought 36 = .ok (.getfield 19, 3) := by decide +kernel
theorem dX12_bought_39 : decode cX12_bought 39 = .ok (.iconst 3, 1) := by decide +kernel
theorem dX12_bought_40 : decode cX12_bought 40 = .ok (.iload 5, 2) := by decide +kernel
theorem dX12_bought_42 : decode cX12_bought 42 = .ok (.imul, 1) := by decide +kernel
theorem dX12_bought_43 : decode cX12_bought 43 = .ok (.aload_n 0, 1) := by decide +kernel
theorem dX12_bought_44 : decode cX12_bought 44 = .ok (.getfield 19, 3) := by decide +kernel
theorem dX12_bought_47 : decode cX12_bought 47 = .ok (.iconst 3, 1) := by decide +kernel
theorem dX12_bought_48 : decode cX12_bought 48 = .ok (.iload 5, 2) := by decide +kernel
theorem dX12_bought_50 : decode cX12_bought 50 = .ok (.imul, 1) := by decide +kernel
theorem dX12_bought_51 : decode cX12_bought 51 = .ok (.iaload, 1) := by decide +kernel
theorem dX12_bought_52 : decode cX12_bought 52 = .ok (.iload 4, 2) := by decide +kernel
theorem dX12_bought_54 : decode cX12_bought 54 = .ok (.iadd, 1) := by decide +kernel
theorem dX12_bought_55 : decode cX12_bought 55 = .ok (.invokestatic 150, 3) := by decide +kernel
theorem dX12_bought_58 : decode cX12_bought 58 = .ok (.iastore, 1) := by decide +kernel
theorem dX12_bought_59 : decode cX12_bought 59 = .ok (.aload_n 0, 1) := by decide +kernel
theorem dX12_bought_60 : decode cX12_bought 60 = .ok (.getfield 16, 3) := by decide +kernel
theorem dX12_bought_63 : decode cX12_bought 63 = .ok (.bipush 7, 2) := by decide +kernel
theorem dX12_bought_65 : decode cX12_bought 65 = .ok (.iload_n 2, 1) := by decide +kernel
theorem dX12_bought_66 : decode cX12_bought 66 = .ok (.imul, 1) := by decide +kernel
theorem dX12_bought_67 : decode cX12_bought 67 = .ok (.iconst 3, 1) := by decide +kernel
theorem dX12_bought_68 : decode cX12_bought 68 = .ok (.iadd, 1) := by decide +kernel
theorem dX12_bought_69 : decode cX12_bought 69 = .ok (.iload_n 3, 1) := by decide +kernel
theorem dX12_bought_70 : decode cX12_bought 70 = .ok (.iadd, 1) := by decide +kernel
theorem dX12_bought_71 : decode cX12_bought 71 = .ok (.iload_n 1, 1) := by decide +kernel
theorem dX12_bought_72 : decode cX12_bought 72 = .ok (.iastore, 1) := by decide +kernel
theorem dX12_bought_73 : decode cX12_bought 73 = .ok (.iload 4, 2) := by decide +kernel
theorem dX12_bought_75 : decode cX12_bought 75 = .ok (.ireturn, 1) := by decide +kernel
theorem dX12_buy_0 : decode cX12_buy 0 = .ok (.iload_n 1, 1) := by decide +kernel
theorem dX12_buy_1 : decode cX12_buy 1 = .ok (.invokestatic 103, 3) := by decide +kernel
theorem dX12_buy_4 : decode cX12_buy 4 = .ok (.ifCond .eq 11, 3) := by decide +kernel
theorem dX12_buy_7 : decode cX12_buy 7 = .ok (.aload_n 0, 1) := by decide +kernel
theorem dX12_buy_8 : decode cX12_buy 8 = .ok (.iload_n 2, 1) := by decide +kernel
theorem dX12_buy_9 : decode cX12_buy 9 = .ok (.invokevirtual 122, 3) := by decide +kernel
theorem dX12_buy_12 : decode cX12_buy 12 = .ok (.ifCond .ne 6, 3) := by decide +kernel
theorem dX12_buy_15 : decode cX12_buy 15 = .ok (.bipush (-101), 2) := by decide +kernel
theorem dX12_buy_17 : decode cX12_buy 17 = .ok (.ireturn, 1) := by decide +kernel
theorem dX12_buy_18 : decode cX12_buy 18 = .ok (.iload_n 3, 1) := by decide +kernel
theorem dX12_buy_19 : decode cX12_buy 19 = .ok (.i2l, 1) := by decide +kernel
theorem dX12_buy_20 : decode cX12_buy 20 = .ok (.lconst 0, 1) := by decide +kernel
theorem dX12_buy_21 : decode cX12_buy 21 = .ok (.lconst 1, 1) := by decide +kernel
theorem dX12_buy_22 : decode cX12_buy 22 = .ok (.invokestatic 62, 3) := by decide +kernel
theorem dX12_buy_25 : decode cX12_buy 25 = .ok (.ifCond .ne 6, 3) := by decide +kernel
theorem dX12_buy_28 : decode cX12_buy 28 = .ok (.bipush (-102), 2) := by decide +kernel
theorem dX12_buy_30 : decode cX12_buy 30 = .ok (.ireturn, 1) := by decide +kernel
theorem dX12_buy_31 : decode cX12_buy 31 = .ok (.aload_n 0, 1) := by decide +kernel
theorem dX12_buy_32 : decode cX12_buy 32 = .ok (.iload_n 1, 1) := by decide +kernel
theorem dX12_buy_33 : decode cX12_buy 33 = .ok (.iload_n 2, 1) := by decide +kernel
theorem dX12_buy_34 : decode cX12_buy 34 = .ok (.iload_n 3, 1) := by decide +kernel
theorem dX12_buy_35 : decode cX12_buy 35 = .ok (.invokevirtual 153, 3) := by decide +kernel
theorem dX12_buy_38 : decode cX12_buy 38 = .ok (.ifCond .eq 13, 3) := by decide +kernel
theorem dX12_buy_41 : decode cX12_buy 41 = .ok (.aload_n 0, 1) := by decide +kernel
theorem dX12_buy_42 : decode cX12_buy 42 = .ok (.iload_n 1, 1) := by decide +kernel
theorem dX12_buy_43 : decode cX12_buy 43 = .ok (.iload_n 2, 1) := by decide +kernel
theorem dX12_buy_44 : decode cX12_buy 44 = .ok (.iload_n 3, 1) := by decide +kernel
theorem dX12_buy_45 : decode cX12_buy 45 = .ok (.invokevirtual 157, 3) := by decide +kernel
theorem dX12_buy_48 : decode cX12_buy 48 = .ok (.goto 5, 3) := by decide +kernel
theorem dX12_buy_51 : decode cX12_buy 51 = .ok (.bipush (-103), 2) := by decide +kernel
theorem dX12_buy_53 : decode cX12_buy 53 = .ok (.ireturn, 1) := by decide +kernel
theorem dX12_lend_0 : decode cX12_lend 0 = .ok (.aload_n 0, 1) := by decide +kernel
theorem dX12_lend_1 : decode cX12_lend 1 = .ok (.iload_n 1, 1) := by decide +kernel
theorem dX12_lend_2 : decode cX12_lend 2 = .ok (.invokevirtual 122, 3) := by decide +kernel
theorem dX12_lend_5 : decode cX12_lend 5 = .ok (.ifCond .eq 10, 3) := by decide +kernel
theorem dX12_lend_8 : decode cX12_lend 8 = .ok (.iload_n 3, 1) := by decide +kernel
theorem dX12_lend_9 : decode cX12_lend 9 = .ok (.invokestatic 103, 3) := by decide +kernel
theorem dX12_lend_12 : decode cX12_lend 12 = .ok (.ifCond .ne 6, 3) := by decide +kernel
theorem dX12_lend_15 : decode cX12_lend 15 = .ok (.bipush (-101), 2) := by decide +kernel
theorem dX12_lend_17 : decode cX12_lend 17 = .ok (.ireturn, 1) := by decide +kernel
theorem dX12_lend_18 : decode cX12_lend 18 = .ok (.iload_n 2, 1) := by decide +kernel
theorem dX12_lend_19 : decode cX12_lend 19 = .ok (.i2l, 1) := by decide +kernel
theorem dX12_lend_20 : decode cX12_lend 20 = .ok (.lconst 0, 1) := by decide +kernel
theorem dX12_lend_21 : decode cX12_lend 21 = .ok (.lconst 1, 1) := by decide +kernel
theorem dX12_lend_22 : decode cX12_lend 22 = .ok (.invokestatic 62, 3) := by decide +kernel
theorem dX12_lend_25 : decode cX12_lend 25 = .ok (.ifCond .ne 6, 3) := by decide +kernel
theorem dX12_lend_28 : decode cX12_lend 28 = .ok (.bipush (-102), 2) := by decide +kernel
theorem dX12_lend_30 : decode cX12_lend 30 = .ok (.ireturn, 1) := by decide +kernel
theorem dX12_lend_31 : decode cX12_lend 31 = .ok (.aload_n 0, 1) := by decide +kernel
theorem dX12_lend_32 : decode cX12_lend 32 = .ok (.getfield 16, 3) := by decide +kernel
theorem dX12_lend_35 : decode cX12_lend 35 = .ok (.bipush 7, 2) := by decide +kernel
theorem dX12_lend_37 : decode cX12_lend 37 = .ok (.iload_n 1, 1) := by decide +kernel
theorem dX12_lend_38 : decode cX12_lend 38 = .ok (.imul, 1) := by decide +kernel
theorem dX12_lend_39 : decode cX12_lend 39 = .ok (.iaload, 1) := by decide +kernel
theorem dX12_lend_40 : decode cX12_lend 40 = .ok (.istore 4, 2) := by decide +kernel
theorem dX12_lend_42 : decode cX12_lend 42 = .ok (.aload_n 0, 1) := by decide +kernel
theorem dX12_lend_43 : decode cX12_lend 43 = .ok (.iload_n 1, 1) := by decide +kernel
theorem dX12_lend_44 : decode cX12_lend 44 = .ok (.invokevirtual 113, 3) := by decide +kernel
theorem dX12_lend_47 : decode cX12_lend 47 = .ok (.ifCond .ne 39, 3) := by decide +kernel
theorem dX12_lend_50 : decode cX12_lend 50 = .ok (.iload 4, 2) := by decide +kernel
theorem dX12_lend_52 : decode cX12_lend 52 = .ok (.iconst 1, 1) := by decide +kernel
theorem dX12_lend_53 : decode cX12_lend 53 = .ok (.if_icmp .eq 9, 3) := by decide +kernel
theorem dX12_lend_56 : decode cX12_lend 56 = .ok (.iload 4, 2) := by decide +kernel
theorem dX12_lend_58 : decode cX12_lend 58 = .ok (.iconst 2, 1) := by decide +kernel
theorem dX12_lend_59 : decode cX12_lend 59 = .ok (.if_icmp .le 27, 3) := by decide +kernel
theorem dX12_lend_62 : decode cX12_lend 62 = .ok (.aload_n 0, 1) := by decide +kernel
theorem dX12_lend_63 : decode cX12_lend 63 = .ok (.iload_n 1, 1) := by decide +kernel
theorem dX12_lend_64 : decode cX12_lend 64 = .ok (.iload_n 2, 1) := by decide +kernel
theorem dX12_lend_65 : decode cX12_lend 65 = .ok (.invokevirtual 110, 3) := by decide +kernel
theorem dX12_lend_68 : decode cX12_lend 68 = .ok (.iconst (-1), 1) := by decide +kernel
theorem dX12_lend_69 : decode cX12_lend 69 = .ok (.if_icmp .eq 17, 3) := by decide +kernel
theorem dX12_lend_72 : decode cX12_lend 72 = .ok (.aload_n 0, 1) := by decide +kernel
theorem dX12_lend_73 : decode cX12_lend 73 = .ok (.iload_n 1, 1) := by decide +kernel
theorem dX12_lend_74 : decode cX12_lend 74 = .ok (.iload_n 2, 1) := by decide +kernel
theorem dX12_lend_75 : decode cX12_lend 75 = .ok (.invokevirtual 106, 3) := by decide +kernel
theorem dX12_lend_78 : decode cX12_lend 78 = .ok (.iconst (-1), 1) := by decide +kernel
theorem dX12_lend_79 : decode cX12_lend 79 = .ok (.if_icmp .ne 7, 3) := by decide +kernel
theorem dX12_lend_82 : decode cX12_lend 82 = .ok (.iconst 1, 1) := by decide +kernel
theorem dX12_lend_83 : decode cX12_lend 83 = .ok (.goto 4, 3) := by decide +kernel
theorem dX12_lend_86 : decode cX12_lend 86 = .ok (.iconst 0, 1) := by decide +kernel
theorem dX12_lend_87 : decode cX12_lend 87 = .ok (.istore 5, 2) := by decide +kernel
theorem dX12_lend_89 : decode cX12_lend 89 = .ok (.iload 5, 2) := by decide +kernel
theorem dX12_lend_91 : decode cX12_lend 91 = .ok (.ifCond .eq 20, 3) := by decide +kernel
theorem dX12_lend_94 : decode cX12_lend 94 = .ok (.aload_n 0, 1) := by decide +kernel
theorem dX12_lend_95 : decode cX12_lend 95 = .ok (.iload_n 3, 1) := by decide +kernel
theorem dX12_lend_96 : decode cX12_lend 96 = .ok (.invokevirtual 143, 3) := by decide +kernel
theorem dX12_lend_99 : decode cX12_lend 99 = .ok (.ifCond .eq 12, 3) := by decide +kernel
theorem dX12_lend_102 : decode cX12_lend 102 = .ok (.aload_n 0, 1) := by decide +kernel
theorem dX12_lend_103 : decode cX12_lend 103 = .ok (.iload_n 3, 1) := by decide +kernel
theorem dX12_lend_104 : decode cX12_lend 104 = .ok (.iload_n 1, 1) := by decide +kernel
theorem dX12_lend_105 : decode cX12_lend 105 = .ok (.invokevirtual 146, 3) := by decide +kernel
theorem dX12_lend_108 : decode cX12_lend 108 = .ok (.ifCond .eq 6, 3) := by decide +kernel
theorem dX12_lend_111 : decode cX12_lend 111 = .ok (.bipush (-103), 2) := by decide +kernel
theorem dX12_lend_113 : decode cX12_lend 113 = .ok (.ireturn, 1) := by decide +kernel
theorem dX12_lend_114 : decode cX12_lend 114 = .ok (.aload_n 0, 1) := by decide +kernel
theorem dX12_lend_115 : decode cX12_lend 115 = .ok (.getfield 16, 3) := by decide +kernel
theorem dX12_lend_118 : decode cX12_lend 118 = .ok (.bipush 7, 2) := by decide +kernel
theorem dX12_lend_120 : decode cX12_lend 120 = .ok (.iload_n 1, 1) := by decide +kernel
theorem dX12_lend_121 : decode cX12_lend 121 = .ok (.imul, 1) := by decide +kernel
theorem dX12_lend_122 : decode cX12_lend 122 = .ok (.iconst 5, 1) := by decide +kernel
theorem dX12_lend_123 : decode cX12_lend 123 = .ok (.iadd, 1) := by decide +kernel
theorem dX12_lend_124 : decode cX12_lend 124 = .ok (.iload_n 2, 1) := by decide +kernel
theorem dX12_lend_125 : decode cX12_lend 125 = .ok (.iadd, 1) := by decide +kernel
theorem dX12_lend_126 : decode cX12_lend 126 = .ok (.iload_n 3, 1) := by decide +kernel
theorem dX12_lend_127 : decode cX12_lend 127 = .ok (.iastore, 1) := by decide +kernel
theorem dX12_lend_128 : decode cX12_lend 128 = .ok (.aload_n 0, 1) := by decide +kernel
theorem dX12_lend_129 : decode cX12_lend 129 = .ok (.iload_n 1, 1) := by decide +kernel
theorem dX12_lend_130 : decode cX12_lend 130 = .ok (.iload_n 2, 1) := by decide +kernel
theorem dX12_lend_131 : decode cX12_lend 131 = .ok (.invokevirtual 110, 3) := by decide +kernel
theorem dX12_lend_134 : decode cX12_lend 134 = .ok (.ireturn, 1) := by decide +kernel
theorem dX12_struckMany_0 : decode cX12_struckMany 0 = .ok (.iconst 0, 1) := by decide +kernel
theorem dX12_struckMany_1 : decode cX12_struckMany 1 = .ok (.istore_n 1, 1) := by decide +kernel
theorem dX12_struckMany_2 : decode cX12_struckMany 2 = .ok (.iconst 0, 1) := by decide +kernel
theorem dX12_struckMany_3 : decode cX12_struckMany 3 = .ok (.istore_n 2, 1) := by decide +kernel
theorem dX12_struckMany_4 : decode cX12_struckMany 4 = .ok (.iload_n 2, 1) := by decide +kernel
theorem dX12_struckMany_5 : decode cX12_struckMany 5 = .ok (.aload_n 0, 1) := by decide +kernel
theorem dX12_struckMany_6 : decode cX12_struckMany 6 = .ok (.getfield 91, 3) := by decide +kernel
theorem dX12_struckMany_9 : decode cX12_struckMany 9 = .ok (.if_icmp .ge 23, 3) := by decide +kernel
theorem dX12_struckMany_12 : decode cX12_struckMany 12 = .ok (.iload_n 1, 1) := by decide +kernel
theorem dX12_struckMany_13 : decode cX12_struckMany 13 = .ok (.aload_n 0, 1) := by decide +kernel
theorem dX12_struckMany_14 : decode cX12_struckMany 14 = .ok (.getfield 16, 3) := by decide +kernel
theorem dX12_struckMany_17 : decode cX12_struckMany 17 = .ok (.bipush 7, 2) := by decide +kernel
theorem dX12_struckMany_19 : decode cX12_struckMany 19 = .ok (.iload_n 2, 1) := by decide +kernel
theorem dX12_struckMany_20 : decode cX12_struckMany 20 = .ok (.imul, 1) := by decide +kernel
theorem dX12_struckMany_21 : decode cX12_struckMany 21 = .ok (.iconst 2, 1) := by decide +kernel
theorem dX12_struckMany_22 : decode cX12_struckMany 22 = .ok (.iadd, 1) := by decide +kernel
theorem dX12_struckMany_23 : decode cX12_struckMany 23 = .ok (.iaload, 1) := by decide +kernel
theorem dX12_struckMany_24 : decode cX12_struckMany 24 = .ok (.iadd, 1) := by decide +kernel
theorem dX12_struckMany_25 : decode cX12_struckMany 25 = .ok (.istore_n 1, 1) := by decide +kernel
theorem dX12_struckMany_26 : decode cX12_struckMany 26 = .ok (.iinc 2 1, 3) := by decide +kernel
theorem dX12_struckMany_29 : decode cX12_struckMany 29 = .ok (.goto (-25), 3) := by decide +kernel
theorem dX12_struckMany_32 : decode cX12_struckMany 32 = .ok (.iload_n 1, 1) := by decide +kernel
theorem dX12_struckMany_33 : decode cX12_struckMany 33 = .ok (.ireturn, 1) := by decide +kernel
theorem dX12_peace_0 : decode cX12_peace 0 = .ok (.aload_n 0, 1) := by decide +kernel
theorem dX12_peace_1 : decode cX12_peace 1 = .ok (.iload_n 1, 1) := by decide +kernel
theorem dX12_peace_2 : decode cX12_peace 2 = .ok (.invokevirtual 122, 3) := by decide +kernel
theorem dX12_peace_5 : decode cX12_peace 5 = .ok (.ifCond .ne 6, 3) := by decide +kernel
theorem dX12_peace_8 : decode cX12_peace 8 = .ok (.bipush (-101), 2) := by decide +kernel
theorem dX12_peace_10 : decode cX12_peace 10 = .ok (.ireturn, 1) := by decide +kernel
theorem dX12_peace_11 : decode cX12_peace 11 = .ok (.iconst 0, 1) := by decide +kernel
theorem dX12_peace_12 : decode cX12_peace 12 = .ok (.istore_n 2, 1) := by decide +kernel
theorem dX12_peace_13 : decode cX12_peace 13 = .ok (.iconst 0, 1) := by decide +kernel
theorem dX12_peace_14 : decode cX12_peace 14 = .ok (.istore_n 3, 1) := by decide +kernel
theorem dX12_peace_15 : decode cX12_peace 15 = .ok (.iconst 0, 1) := by decide +kernel
theorem dX12_peace_16 : decode cX12_peace 16 = .ok (.istore 4, 2) := by decide +kernel
theorem dX12_peace_18 : decode cX12_peace 18 = .ok (.iload 4, 2) := by decide +kernel
theorem dX12_peace_20 : decode cX12_peace 20 = .ok (.iconst 2, 1) := by decide +kernel
theorem dX12_peace_21 : decode cX12_peace 21 = .ok (.if_icmp .ge 47, 3) := by decide +kernel
theorem dX12_peace_24 : decode cX12_peace 24 = .ok (.iload_n 2, 1) := by decide +kernel
theorem dX12_peace_25 : decode cX12_peace 25 = .ok (.aload_n 0, 1) := by decide +kernel
theorem dX12_peace_26 : decode cX12_peace 26 = .ok (.iload_n 1, 1) := by decide +kernel
theorem dX12_peace_27 : decode cX12_peace 27 = .ok (.iload 4, 2) := by decide +kernel
theorem dX12_peace_29 : decode cX12_peace 29 = .ok (.invokevirtual 110, 3) := by decide +kernel
theorem dX12_peace_32 : decode cX12_peace 32 = .ok (.iconst (-1), 1) := by decide +kernel
theorem dX12_peace_33 : decode cX12_peace 33 = .ok (.if_icmp .ne 7, 3) := by decide +kernel
theorem dX12_peace_36 : decode cX12_peace 36 = .ok (.iconst 1, 1) := by decide +kernel
theorem dX12_peace_37 : decode cX12_peace 37 = .ok (.goto 4, 3) := by decide +kernel
theorem dX12_peace_40 : decode cX12_peace 40 = .ok (.iconst 0, 1) := by decide +kernel
theorem dX12_peace_41 : decode cX12_peace 41 = .ok (.iadd, 1) := by decide +kernel
theorem dX12_peace_42 : decode cX12_peace 42 = .ok (.istore_n 2, 1) := by decide +kernel
theorem dX12_peace_43 : decode cX12_peace 43 = .ok (.iload_n 3, 1) := by decide +kernel
theorem dX12_peace_44 : decode cX12_peace 44 = .ok (.aload_n 0, 1) := by decide +kernel
theorem dX12_peace_45 : decode cX12_peace 45 = .ok (.iload_n 1, 1) := by decide +kernel
theorem dX12_peace_46 : decode cX12_peace 46 = .ok (.iload 4, 2) := by decide +kernel
theorem dX12_peace_48 : decode cX12_peace 48 = .ok (.invokevirtual 106, 3) := by decide +kernel
theorem dX12_peace_51 : decode cX12_peace 51 = .ok (.iconst (-1), 1) := by decide +kernel
theorem dX12_peace_52 : decode cX12_peace 52 = .ok (.if_icmp .ne 7, 3) := by decide +kernel
theorem dX12_peace_55 : decode cX12_peace 55 = .ok (.iconst 0, 1) := by decide +kernel
theorem dX12_peace_56 : decode cX12_peace 56 = .ok (.goto 4, 3) := by decide +kernel
theorem dX12_peace_59 : decode cX12_peace 59 = .ok (.iconst 1, 1) := by decide +kernel
theorem dX12_peace_60 : decode cX12_peace 60 = .ok (.iadd, 1) := by decide +kernel
theorem dX12_peace_61 : decode cX12_peace 61 = .ok (.istore_n 3, 1) := by decide +kernel
theorem dX12_peace_62 : decode cX12_peace 62 = .ok (.iinc 4 1, 3) := by decide +kernel
theorem dX12_peace_65 : decode cX12_peace 65 = .ok (.goto (-47), 3) := by decide +kernel
theorem dX12_peace_68 : decode cX12_peace 68 = .ok (.aload_n 0, 1) := by decide +kernel
theorem dX12_peace_69 : decode cX12_peace 69 = .ok (.iload_n 1, 1) := by decide +kernel
theorem dX12_peace_70 : decode cX12_peace 70 = .ok (.invokevirtual 113, 3) := by decide +kernel
theorem dX12_peace_73 : decode cX12_peace 73 = .ok (.ifCond .ne 29, 3) := by decide +kernel
theorem dX12_peace_76 : decode cX12_peace 76 = .ok (.iload_n 3, 1) := by decide +kernel
theorem dX12_peace_77 : decode cX12_peace 77 = .ok (.ifCond .gt 25, 3) := by decide +kernel
theorem dX12_peace_80 : decode cX12_peace 80 = .ok (.iload_n 2, 1) := by decide +kernel
theorem dX12_peace_81 : decode cX12_peace 81 = .ok (.aload_n 0, 1) := by decide +kernel
theorem dX12_peace_82 : decode cX12_peace 82 = .ok (.getfield 16, 3) := by decide +kernel
theorem dX12_peace_85 : decode cX12_peace 85 = .ok (.bipush 7, 2) := by decide +kernel
theorem dX12_peace_87 : decode cX12_peace 87 = .ok (.iload_n 1, 1) := by decide +kernel
theorem dX12_peace_88 : decode cX12_peace 88 = .ok (.imul, 1) := by decide +kernel
theorem dX12_peace_89 : decode cX12_peace 89 = .ok (.iaload, 1) := by decide +kernel
theorem dX12_peace_90 : decode cX12_peace 90 = .ok (.iconst 2, 1) := by decide +kernel
theorem dX12_peace_91 : decode cX12_peace 91 = .ok (.if_icmp .ne 7, 3) := by decide +kernel
theorem dX12_peace_94 : decode cX12_peace 94 = .ok (.iconst 1, 1) := by decide +kernel
theorem dX12_peace_95 : decode cX12_peace 95 = .ok (.goto 4, 3) := by decide +kernel
theorem dX12_peace_98 : decode cX12_peace 98 = .ok (.iconst 0, 1) := by decide +kernel
theorem dX12_peace_99 : decode cX12_peace 99 = .ok (.if_icmp .le 6, 3) := by decide +kernel
theorem dX12_peace_102 : decode cX12_peace 102 = .ok (.bipush (-103), 2) := by decide +kernel
theorem dX12_peace_104 : decode cX12_peace 104 = .ok (.ireturn, 1) := by decide +kernel
theorem dX12_peace_105 : decode cX12_peace 105 = .ok (.aload_n 0, 1) := by decide +kernel
theorem dX12_peace_106 : decode cX12_peace 106 = .ok (.getfield 16, 3) := by decide +kernel
theorem dX12_peace_109 : decode cX12_peace 109 = .ok (.bipush 7, 2) := by decide +kernel
theorem dX12_peace_111 : decode cX12_peace 111 = .ok (.iload_n 1, 1) := by decide +kernel
theorem dX12_peace_112 : decode cX12_peace 112 = .ok (.imul, 1) := by decide +kernel
theorem dX12_peace_113 : decode cX12_peace 113 = .ok (.iconst 2, 1) := by decide +kernel
theorem dX12_peace_114 : decode cX12_peace 114 = .ok (.iadd, 1) := by decide +kernel
theorem dX12_peace_115 : decode cX12_peace 115 = .ok (.iconst 1, 1) := by decide +kernel
theorem dX12_peace_116 : decode cX12_peace 116 = .ok (.iastore, 1) := by decide +kernel
theorem dX12_peace_117 : decode cX12_peace 117 = .ok (.aload_n 0, 1) := by decide +kernel
theorem dX12_peace_118 : decode cX12_peace 118 = .ok (.getfield 16, 3) := by decide +kernel
theorem dX12_peace_121 : decode cX12_peace 121 = .ok (.bipush 7, 2) := by decide +kernel
theorem dX12_peace_123 : decode cX12_peace 123 = .ok (.iload_n 1, 1) := by decide +kernel
theorem dX12_peace_124 : decode cX12_peace 124 = .ok (.imul, 1) := by decide +kernel
theorem dX12_peace_125 : decode cX12_peace 125 = .ok (.iconst 3, 1) := by decide +kernel
theorem dX12_peace_126 : decode cX12_peace 126 = .ok (.iadd, 1) := by decide +kernel
theorem dX12_peace_127 : decode cX12_peace 127 = .ok (.iconst (-1), 1) := by decide +kernel
theorem dX12_peace_128 : decode cX12_peace 128 = .ok (.iastore, 1) := by decide +kernel
theorem dX12_peace_129 : decode cX12_peace 129 = .ok (.aload_n 0, 1) := by decide +kernel
theorem dX12_peace_130 : decode cX12_peace 130 = .ok (.getfield 16, 3) := by decide +kernel
theorem dX12_peace_133 : decode cX12_peace 133 = .ok (.bipush 7, 2) := by decide +kernel
theorem dX12_peace_135 : decode cX12_peace 135 = .ok (.iload_n 1, 1) := by decide +kernel
theorem dX12_peace_136 : decode cX12_peace 136 = .ok (.imul, 1) := by decide +kernel
theorem dX12_peace_137 : decode cX12_peace 137 = .ok (.iconst 4, 1) := by decide +kernel
theorem dX12_peace_138 : decode cX12_peace 138 = .ok (.iadd, 1) := by decide +kernel
theorem dX12_peace_139 : decode cX12_peace 139 = .ok (.iconst (-1), 1) := by decide +kernel
theorem dX12_peace_140 : decode cX12_peace 140 = .ok (.iastore, 1) := by decide +kernel
theorem dX12_peace_141 : decode cX12_peace 141 = .ok (.aload_n 0, 1) := by decide +kernel
theorem dX12_peace_142 : decode cX12_peace 142 = .ok (.invokevirtual 161, 3) := by decide +kernel
theorem dX12_peace_145 : decode cX12_peace 145 = .ok (.ireturn, 1) := by decide +kernel
theorem dX12_heirOf_0 : decode cX12_heirOf 0 = .ok (.iconst 1, 1) := by decide +kernel
theorem dX12_heirOf_1 : decode cX12_heirOf 1 = .ok (.iload_n 1, 1) := by decide +kernel
theorem dX12_heirOf_2 : decode cX12_heirOf 2 = .ok (.ishl, 1) := by decide +kernel
theorem dX12_heirOf_3 : decode cX12_heirOf 3 = .ok (.istore_n 2, 1) := by decide +kernel
theorem dX12_heirOf_4 : decode cX12_heirOf 4 = .ok (.aload_n 0, 1) := by decide +kernel
theorem dX12_heirOf_5 : decode cX12_heirOf 5 = .ok (.getfield 19, 3) := by decide +kernel
theorem dX12_heirOf_8 : decode cX12_heirOf 8 = .ok (.iconst 3, 1) := by decide +kernel
theorem dX12_heirOf_9 : decode cX12_heirOf 9 = .ok (.iload_n 1, 1) := by decide +kernel
theorem dX12_heirOf_10 : decode cX12_heirOf 10 = .ok (.imul, 1) := by decide +kernel
theorem dX12_heirOf_11 : decode cX12_heirOf 11 = .ok (.iconst 1, 1) := by decide +kernel
theorem dX12_heirOf_12 : decode cX12_heirOf 12 = .ok (.iadd, 1) := by decide +kernel
theorem dX12_heirOf_13 : decode cX12_heirOf 13 = .ok (.iaload, 1) := by decide +kernel
theorem dX12_heirOf_14 : decode cX12_heirOf 14 = .ok (.istore_n 3, 1) := by decide +kernel
theorem dX12_heirOf_15 : decode cX12_heirOf 15 = .ok (.iload_n 3, 1) := by decide +kernel
theorem dX12_heirOf_16 : decode cX12_heirOf 16 = .ok (.iconst (-1), 1) := by decide +kernel
theorem dX12_heirOf_17 : decode cX12_heirOf 17 = .ok (.if_icmp .eq 39, 3) := by decide +kernel
theorem dX12_heirOf_20 : decode cX12_heirOf 20 = .ok (.iload_n 2, 1) := by decide +kernel
theorem dX12_heirOf_21 : decode cX12_heirOf 21 = .ok (.iload_n 3, 1) := by decide +kernel
theorem dX12_heirOf_22 : decode cX12_heirOf 22 = .ok (.ishr, 1) := by decide +kernel
theorem dX12_heirOf_23 : decode cX12_heirOf 23 = .ok (.iconst 1, 1) := by decide +kernel
theorem dX12_heirOf_24 : decode cX12_heirOf 24 = .ok (.iand, 1) := by decide +kernel
theorem dX12_heirOf_25 : decode cX12_heirOf 25 = .ok (.ifCond .ne 31, 3) := by decide +kernel
theorem dX12_heirOf_28 : decode cX12_heirOf 28 = .ok (.aload_n 0, 1) := by decide +kernel
theorem dX12_heirOf_29 : decode cX12_heirOf 29 = .ok (.iload_n 3, 1) := by decide +kernel
theorem dX12_heirOf_30 : decode cX12_heirOf 30 = .ok (.invokevirtual 143, 3) := by decide +kernel
theorem dX12_heirOf_33 : decode cX12_heirOf 33 = .ok (.ifCond .ne 23, 3) := by decide +kernel
theorem dX12_heirOf_36 : decode cX12_heirOf 36 = .ok (.iload_n 2, 1) := by decide +kernel
theorem dX12_heirOf_37 : decode cX12_heirOf 37 = .ok (.iconst 1, 1) := by decide +kernel
theorem dX12_heirOf_38 : decode cX12_heirOf 38 = .ok (.iload_n 3, 1) := by decide +kernel
theorem dX12_heirOf_39 : decode cX12_heirOf 39 = .ok (.ishl, 1) := by decide +kernel
theorem dX12_heirOf_40 : decode cX12_heirOf 40 = .ok (.ior, 1) := by decide +kernel
theorem dX12_heirOf_41 : decode cX12_heirOf 41 = .ok (.istore_n 2, 1) := by decide +kernel
theorem dX12_heirOf_42 : decode cX12_heirOf 42 = .ok (.aload_n 0, 1) := by decide +kernel
theorem dX12_heirOf_43 : decode cX12_heirOf 43 = .ok (.getfield 19, 3) := by decide +kernel
theorem dX12_heirOf_46 : decode cX12_heirOf 46 = .ok (.iconst 3, 1) := by decide +kernel
theorem dX12_heirOf_47 : decode cX12_heirOf 47 = .ok (.iload_n 3, 1) := by decide +kernel
theorem dX12_heirOf_48 : decode cX12_heirOf 48 = .ok (.imul, 1) := by decide +kernel
theorem dX12_heirOf_49 : decode cX12_heirOf 49 = .ok (.iconst 1, 1) := by decide +kernel
theorem dX12_heirOf_50 : decode cX12_heirOf 50 = .ok (.iadd, 1) := by decide +kernel
theorem dX12_heirOf_51 : decode cX12_heirOf 51 = .ok (.iaload, 1) := by decide +kernel
theorem dX12_heirOf_52 : decode cX12_heirOf 52 = .ok (.istore_n 3, 1) := by decide +kernel
theorem dX12_heirOf_53 : decode cX12_heirOf 53 = .ok (.goto (-38), 3) := by decide +kernel
theorem dX12_heirOf_56 : decode cX12_heirOf 56 = .ok (.iload_n 3, 1) := by decide +kernel
theorem dX12_heirOf_57 : decode cX12_heirOf 57 = .ok (.iconst (-1), 1) := by decide +kernel
theorem dX12_heirOf_58 : decode cX12_heirOf 58 = .ok (.if_icmp .eq 12, 3) := by decide +kernel
theorem dX12_heirOf_61 : decode cX12_heirOf 61 = .ok (.iload_n 2, 1) := by decide +kernel
theorem dX12_heirOf_62 : decode cX12_heirOf 62 = .ok (.iload_n 3, 1) := by decide +kernel
theorem dX12_heirOf_63 : decode cX12_heirOf 63 = .ok (.ishr, 1) := by decide +kernel
theorem dX12_heirOf_64 : decode cX12_heirOf 64 = .ok (.iconst 1, 1) := by decide +kernel
theorem dX12_heirOf_65 : decode cX12_heirOf 65 = .ok (.iand, 1) := by decide +kernel
theorem dX12_heirOf_66 : decode cX12_heirOf 66 = .ok (.iconst 1, 1) := by decide +kernel
theorem dX12_heirOf_67 : decode cX12_heirOf 67 = .ok (.if_icmp .ne 7, 3) := by decide +kernel
theorem dX12_heirOf_70 : decode cX12_heirOf 70 = .ok (.iconst (-1), 1) := by decide +kernel
theorem dX12_heirOf_71 : decode cX12_heirOf 71 = .ok (.goto 4, 3) := by decide +kernel
theorem dX12_heirOf_74 : decode cX12_heirOf 74 = .ok (.iload_n 3, 1) := by decide +kernel
theorem dX12_heirOf_75 : decode cX12_heirOf 75 = .ok (.ireturn, 1) := by decide +kernel
theorem dX12_died_0 : decode cX12_died 0 = .ok (.iconst 0, 1) := by decide +kernel
theorem dX12_died_1 : decode cX12_died 1 = .ok (.istore_n 2, 1) := by decide +kernel
theorem dX12_died_2 : decode cX12_died 2 = .ok (.iload_n 2, 1) := by decide +kernel
theorem dX12_died_3 : decode cX12_died 3 = .ok (.iconst 2, 1) := by decide +kernel
theorem dX12_died_4 : decode cX12_died 4 = .ok (.aload_n 0, 1) := by decide +kernel
theorem dX12_died_5 : decode cX12_died 5 = .ok (.getfield 91, 3) := by decide +kernel
theorem dX12_died_8 : decode cX12_died 8 = .ok (.imul, 1) := by decide +kernel
theorem dX12_died_9 : decode cX12_died 9 = .ok (.if_icmp .ge 72, 3) := by decide +kernel
theorem dX12_died_12 : decode cX12_died 12 = .ok (.bipush 7, 2) := by decide +kernel
theorem dX12_died_14 : decode cX12_died 14 = .ok (.iload_n 2, 1) := by decide +kernel
theorem dX12_died_15 : decode cX12_died 15 = .ok (.iconst 2, 1) := by decide +kernel
theorem dX12_died_16 : decode cX12_died 16 = .ok (.idiv, 1) := by decide +kernel
theorem dX12_died_17 : decode cX12_died 17 = .ok (.imul, 1) := by decide +kernel
theorem dX12_died_18 : decode cX12_died 18 = .ok (.iconst 5, 1) := by decide +kernel
theorem dX12_died_19 : decode cX12_died 19 = .ok (.iadd, 1) := by decide +kernel
theorem dX12_died_20 : decode cX12_died 20 = .ok (.iload_n 2, 1) := by decide +kernel
theorem dX12_died_21 : decode cX12_died 21 = .ok (.iconst 2, 1) := by decide +kernel
theorem dX12_died_22 : decode cX12_died 22 = .ok (.irem, 1) := by decide +kernel
theorem dX12_died_23 : decode cX12_died 23 = .ok (.iadd, 1) := by decide +kernel
theorem dX12_died_24 : decode cX12_died 24 = .ok (.istore_n 3, 1) := by decide +kernel
theorem dX12_died_25 : decode cX12_died 25 = .ok (.aload_n 0, 1) := by decide +kernel
theorem dX12_died_26 : decode cX12_died 26 = .ok (.getfield 16, 3) := by decide +kernel
theorem dX12_died_29 : decode cX12_died 29 = .ok (.iload_n 3, 1) := by decide +kernel
theorem dX12_died_30 : decode cX12_died 30 = .ok (.iaload, 1) := by decide +kernel
theorem dX12_died_31 : decode cX12_died 31 = .ok (.iload_n 1, 1) := by decide +kernel
theorem dX12_died_32 : decode cX12_died 32 = .ok (.if_icmp .eq 15, 3) := by decide +kernel
theorem dX12_died_35 : decode cX12_died 35 = .ok (.aload_n 0, 1) := by decide +kernel
theorem dX12_died_36 : decode cX12_died 36 = .ok (.getfield 16, 3) := by decide +kernel
theorem dX12_died_39 : decode cX12_died 39 = .ok (.iload_n 3, 1) := by decide +kernel
theorem dX12_died_40 : decode cX12_died 40 = .ok (.iconst 2, 1) := by decide +kernel
theorem dX12_died_41 : decode cX12_died 41 = .ok (.isub, 1) := by decide +kernel
theorem dX12_died_42 : decode cX12_died 42 = .ok (.iaload, 1) := by decide +kernel
theorem dX12_died_43 : decode cX12_died 43 = .ok (.iload_n 1, 1) := by decide +kernel
theorem dX12_died_44 : decode cX12_died 44 = .ok (.if_icmp .ne 7, 3) := by decide +kernel
theorem dX12_died_47 : decode cX12_died 47 = .ok (.iconst 1, 1) := by decide +kernel
theorem dX12_died_48 : decode cX12_died 48 = .ok (.goto 4, 3) := by decide +kernel
theorem dX12_died_51 : decode cX12_died 51 = .ok (.iconst 0, 1) := by decide +kernel
theorem dX12_died_52 : decode cX12_died 52 = .ok (.istore 4, 2) := by decide +kernel
theorem dX12_died_54 : decode cX12_died 54 = .ok (.aload_n 0, 1) := by decide +kernel
theorem dX12_died_55 : decode cX12_died 55 = .ok (.getfield 16, 3) := by decide +kernel
theorem dX12_died_58 : decode cX12_died 58 = .ok (.iload_n 3, 1) := by decide +kernel
theorem dX12_died_59 : decode cX12_died 59 = .ok (.iload 4, 2) := by decide +kernel
theorem dX12_died_61 : decode cX12_died 61 = .ok (.ifCond .eq 7, 3) := by decide +kernel
theorem dX12_died_64 : decode cX12_died 64 = .ok (.iconst (-1), 1) := by decide +kernel
theorem dX12_died_65 : decode cX12_died 65 = .ok (.goto 9, 3) := by decide +kernel
theorem dX12_died_68 : decode cX12_died 68 = .ok (.aload_n 0, 1) := by decide +kernel
theorem dX12_died_69 : decode cX12_died 69 = .ok (.getfield 16, 3) := by decide +kernel
theorem dX12_died_72 : decode cX12_died 72 = .ok (.iload_n 3, 1) := by decide +kernel
theorem dX12_died_73 : decode cX12_died 73 = .ok (.iaload, 1) := by decide +kernel
theorem dX12_died_74 : decode cX12_died 74 = .ok (.iastore, 1) := by decide +kernel
theorem dX12_died_75 : decode cX12_died 75 = .ok (.iinc 2 1, 3) := by decide +kernel
theorem dX12_died_78 : decode cX12_died 78 = .ok (.goto (-76), 3) := by decide +kernel
theorem dX12_died_81 : decode cX12_died 81 = .ok (.aload_n 0, 1) := by decide +kernel
theorem dX12_died_82 : decode cX12_died 82 = .ok (.getfield 19, 3) := by decide +kernel
theorem dX12_died_85 : decode cX12_died 85 = .ok (.iconst 3, 1) := by decide +kernel
theorem dX12_died_86 : decode cX12_died 86 = .ok (.iload_n 1, 1) := by decide +kernel
theorem dX12_died_87 : decode cX12_died 87 = .ok (.imul, 1) := by decide +kernel
theorem dX12_died_88 : decode cX12_died 88 = .ok (.iconst 2, 1) := by decide +kernel
theorem dX12_died_89 : decode cX12_died 89 = .ok (.iadd, 1) := by decide +kernel
theorem dX12_died_90 : decode cX12_died 90 = .ok (.iconst 0, 1) := by decide +kernel
theorem dX12_died_91 : decode cX12_died 91 = .ok (.iastore, 1) := by decide +kernel
theorem dX12_died_92 : decode cX12_died 92 = .ok (.aload_n 0, 1) := by decide +kernel
theorem dX12_died_93 : decode cX12_died 93 = .ok (.iload_n 1, 1) := by decide +kernel
theorem dX12_died_94 : decode cX12_died 94 = .ok (.invokevirtual 164, 3) := by decide +kernel
theorem dX12_died_97 : decode cX12_died 97 = .ok (.istore_n 2, 1) := by decide +kernel
theorem dX12_died_98 : decode cX12_died 98 = .ok (.iconst 0, 1) := by decide +kernel
theorem dX12_died_99 : decode cX12_died 99 = .ok (.istore_n 3, 1) := by decide +kernel
theorem dX12_died_100 : decode cX12_died 100 = .ok (.iconst 0, 1) := by decide +kernel
theorem dX12_died_101 : decode cX12_died 101 = .ok (.istore 4, 2) := by decide +kernel
theorem dX12_died_103 : decode cX12_died 103 = .ok (.iload 4, 2) := by decide +kernel
theorem dX12_died_105 : decode cX12_died 105 = .ok (.iconst 2, 1) := by decide +kernel
theorem dX12_died_106 : decode cX12_died 106 = .ok (.aload_n 0, 1) := by decide +kernel
theorem dX12_died_107 : decode cX12_died 107 = .ok (.getfield 91, 3) := by decide +kernel
theorem dX12_died_110 : decode cX12_died 110 = .ok (.imul, 1) := by decide +kernel
theorem dX12_died_111 : decode cX12_died 111 = .ok (.if_icmp .ge 100, 3) := by decide +kernel
theorem dX12_died_114 : decode cX12_died 114 = .ok (.iload 4, 2) := by decide +kernel
theorem dX12_died_116 : decode cX12_died 116 = .ok (.iconst 2, 1) := by decide +kernel
theorem dX12_died_117 : decode cX12_died 117 = .ok (.idiv, 1) := by decide +kernel
theorem dX12_died_118 : decode cX12_died 118 = .ok (.istore 5, 2) := by decide +kernel
theorem dX12_died_120 : decode cX12_died 120 = .ok (.bipush 7, 2) := by decide +kernel
theorem dX12_died_122 : decode cX12_died 122 = .ok (.iload 5, 2) := by decide +kernel
theorem dX12_died_124 : decode cX12_died 124 = .ok (.imul, 1) := by decide +kernel
theorem dX12_died_125 : decode cX12_died 125 = .ok (.iconst 3, 1) := by decide +kernel
theorem dX12_died_126 : decode cX12_died 126 = .ok (.iadd, 1) := by decide +kernel
theorem dX12_died_127 : decode cX12_died 127 = .ok (.iload 4, 2) := by decide +kernel
theorem dX12_died_129 : decode cX12_died 129 = .ok (.iconst 2, 1) := by decide +kernel
theorem dX12_died_130 : decode cX12_died 130 = .ok (.irem, 1) := by decide +kernel
theorem dX12_died_131 : decode cX12_died 131 = .ok (.iadd, 1) := by decide +kernel
theorem dX12_died_132 : decode cX12_died 132 = .ok (.istore 6, 2) := by decide +kernel
theorem dX12_died_134 : decode cX12_died 134 = .ok (.aload_n 0, 1) := by decide +kernel
theorem dX12_died_135 : decode cX12_died 135 = .ok (.getfield 16, 3) := by decide +kernel
theorem dX12_died_138 : decode cX12_died 138 = .ok (.iload 6, 2) := by decide +kernel
theorem dX12_died_140 : decode cX12_died 140 = .ok (.iaload, 1) := by decide +kernel
theorem dX12_died_141 : decode cX12_died 141 = .ok (.iload_n 1, 1) := by decide +kernel
theorem dX12_died_142 : decode cX12_died 142 = .ok (.if_icmp .ne 63, 3) := by decide +kernel
theorem dX12_died_145 : decode cX12_died 145 = .ok (.aload_n 0, 1) := by decide +kernel
theorem dX12_died_146 : decode cX12_died 146 = .ok (.getfield 16, 3) := by decide +kernel
theorem dX12_died_149 : decode cX12_died 149 = .ok (.iload 6, 2) := by decide +kernel
theorem dX12_died_151 : decode cX12_died 151 = .ok (.iconst (-1), 1) := by decide +kernel
theorem dX12_died_152 : decode cX12_died 152 = .ok (.iastore, 1) := by decide +kernel
theorem dX12_died_153 : decode cX12_died 153 = .ok (.iload_n 2, 1) := by decide +kernel
theorem dX12_died_154 : decode cX12_died 154 = .ok (.iconst (-1), 1) := by decide +kernel
theorem dX12_died_155 : decode cX12_died 155 = .ok (.if_icmp .eq 17, 3) := by decide +kernel
theorem dX12_died_158 : decode cX12_died 158 = .ok (.aload_n 0, 1) := by decide +kernel
theorem dX12_died_159 : decode cX12_died 159 = .ok (.iload_n 2, 1) := by decide +kernel
theorem dX12_died_160 : decode cX12_died 160 = .ok (.iload 5, 2) := by decide +kernel
theorem dX12_died_162 : decode cX12_died 162 = .ok (.invokevirtual 146, 3) := by decide +kernel
theorem dX12_died_165 : decode cX12_died 165 = .ok (.ifCond .ne 7, 3) := by decide +kernel
theorem dX12_died_168 : decode cX12_died 168 = .ok (.iconst 1, 1) := by decide +kernel
theorem dX12_died_169 : decode cX12_died 169 = .ok (.goto 4, 3) := by decide +kernel
theorem dX12_died_172 : decode cX12_died 172 = .ok (.iconst 0, 1) := by decide +kernel
theorem dX12_died_173 : decode cX12_died 173 = .ok (.istore 7, 2) := by decide +kernel
theorem dX12_died_175 : decode cX12_died 175 = .ok (.aload_n 0, 1) := by decide +kernel
theorem dX12_died_176 : decode cX12_died 176 = .ok (.getfield 16, 3) := by decide +kernel
theorem dX12_died_179 : decode cX12_died 179 = .ok (.iload 6, 2) := by decide +kernel
theorem dX12_died_181 : decode cX12_died 181 = .ok (.iload 7, 2) := by decide +kernel
theorem dX12_died_183 : decode cX12_died 183 = .ok (.ifCond .eq 7, 3) := by decide +kernel
theorem dX12_died_186 : decode cX12_died 186 = .ok (.iload_n 2, 1) := by decide +kernel
theorem dX12_died_187 : decode cX12_died 187 = .ok (.goto 4, 3) := by decide +kernel
theorem dX12_died_190 : decode cX12_died 190 = .ok (.iconst (-1), 1) := by decide +kernel
theorem dX12_died_191 : decode cX12_died 191 = .ok (.iastore, 1) := by decide +kernel
theorem dX12_died_192 : decode cX12_died 192 = .ok (.iload_n 3, 1) := by decide +kernel
theorem dX12_died_193 : decode cX12_died 193 = .ok (.iload 7, 2) := by decide +kernel
theorem dX12_died_195 : decode cX12_died 195 = .ok (.ifCond .eq 7, 3) := by decide +kernel
theorem dX12_died_198 : decode cX12_died 198 = .ok (.iconst 1, 1) := by decide +kernel
theorem dX12_died_199 : decode cX12_died 199 = .ok (.goto 4, 3) := by decide +kernel
theorem dX12_died_202 : decode cX12_died 202 = .ok (.iconst 0, 1) := by decide +kernel
theorem dX12_died_203 : decode cX12_died 203 = .ok (.iadd, 1) := by decide +kernel
theorem dX12_died_204 : decode cX12_died 204 = .ok (.istore_n 3, 1) := by decide +kernel
theorem dX12_died_205 : decode cX12_died 205 = .ok (.iinc 4 1, 3) := by decide +kernel
theorem dX12_died_208 : decode cX12_died 208 = .ok (.goto (-105), 3) := by decide +kernel
theorem dX12_died_211 : decode cX12_died 211 = .ok (.iload_n 2, 1) := by decide +kernel
theorem dX12_died_212 : decode cX12_died 212 = .ok (.iconst (-1), 1) := by decide +kernel
theorem dX12_died_213 : decode cX12_died 213 = .ok (.if_icmp .eq 31, 3) := by decide +kernel
theorem dX12_died_216 : decode cX12_died 216 = .ok (.aload_n 0, 1) := by decide +kernel
theorem dX12_died_217 : decode cX12_died 217 = .ok (.getfield 19, 3) := by decide +kernel
theorem dX12_died_220 : decode cX12_died 220 = .ok (.iconst 3, 1) := by decide +kernel
theorem dX12_died_221 : decode cX12_died 221 = .ok (.iload_n 2, 1) := by decide +kernel
theorem dX12_died_222 : decode cX12_died 222 = .ok (.imul, 1) := by decide +kernel
theorem dX12_died_223 : decode cX12_died 223 = .ok (.aload_n 0, 1) := by decide +kernel
theorem dX12_died_224 : decode cX12_died 224 = .ok (.getfield 19, 3) := by decide +kernel
theorem dX12_died_227 : decode cX12_died 227 = .ok (.iconst 3, 1) := by decide +kernel
theorem dX12_died_228 : decode cX12_died 228 = .ok (.iload_n 2, 1) := by decide +kernel
theorem dX12_died_229 : decode cX12_died 229 = .ok (.imul, 1) := by decide +kernel
theorem dX12_died_230 : decode cX12_died 230 = .ok (.iaload, 1) := by decide +kernel
theorem dX12_died_231 : decode cX12_died 231 = .ok (.aload_n 0, 1) := by decide +kernel
theorem dX12_died_232 : decode cX12_died 232 = .ok (.getfield 19, 3) := by decide +kernel
theorem dX12_died_235 : decode cX12_died 235 = .ok (.iconst 3, 1) := by decide +kernel
theorem dX12_died_236 : decode cX12_died 236 = .ok (.iload_n 1, 1) := by decide +kernel
theorem dX12_died_237 : decode cX12_died 237 = .ok (.imul, 1) := by decide +kernel
theorem dX12_died_238 : decode cX12_died 238 = .ok (.iaload, 1) := by decide +kernel
theorem dX12_died_239 : decode cX12_died 239 = .ok (.iadd, 1) := by decide +kernel
theorem dX12_died_240 : decode cX12_died 240 = .ok (.invokestatic 150, 3) := by decide +kernel
theorem dX12_died_243 : decode cX12_died 243 = .ok (.iastore, 1) := by decide +kernel
theorem dX12_died_244 : decode cX12_died 244 = .ok (.aload_n 0, 1) := by decide +kernel
theorem dX12_died_245 : decode cX12_died 245 = .ok (.getfield 19, 3) := by decide +kernel
theorem dX12_died_248 : decode cX12_died 248 = .ok (.iconst 3, 1) := by decide +kernel
theorem dX12_died_249 : decode cX12_died 249 = .ok (.iload_n 1, 1) := by decide +kernel
theorem dX12_died_250 : decode cX12_died 250 = .ok (.imul, 1) := by decide +kernel
theorem dX12_died_251 : decode cX12_died 251 = .ok (.iconst 0, 1) := by decide +kernel
theorem dX12_died_252 : decode cX12_died 252 = .ok (.iastore, 1) := by decide +kernel
theorem dX12_died_253 : decode cX12_died 253 = .ok (.iload_n 3, 1) := by decide +kernel
theorem dX12_died_254 : decode cX12_died 254 = .ok (.ireturn, 1) := by decide +kernel
theorem dX12_death_0 : decode cX12_death 0 = .ok (.iload_n 1, 1) := by decide +kernel
theorem dX12_death_1 : decode cX12_death 1 = .ok (.invokestatic 103, 3) := by decide +kernel
theorem dX12_death_4 : decode cX12_death 4 = .ok (.ifCond .ne 6, 3) := by decide +kernel
theorem dX12_death_7 : decode cX12_death 7 = .ok (.bipush (-101), 2) := by decide +kernel
theorem dX12_death_9 : decode cX12_death 9 = .ok (.ireturn, 1) := by decide +kernel
theorem dX12_death_10 : decode cX12_death 10 = .ok (.aload_n 0, 1) := by decide +kernel
theorem dX12_death_11 : decode cX12_death 11 = .ok (.invokevirtual 139, 3) := by decide +kernel
theorem dX12_death_14 : decode cX12_death 14 = .ok (.ifCond .ne 11, 3) := by decide +kernel
theorem dX12_death_17 : decode cX12_death 17 = .ok (.aload_n 0, 1) := by decide +kernel
theorem dX12_death_18 : decode cX12_death 18 = .ok (.iload_n 1, 1) := by decide +kernel
theorem dX12_death_19 : decode cX12_death 19 = .ok (.invokevirtual 143, 3) := by decide +kernel
theorem dX12_death_22 : decode cX12_death 22 = .ok (.ifCond .ne 8, 3) := by decide +kernel
theorem dX12_death_25 : decode cX12_death 25 = .ok (.bipush (-103), 2) := by decide +kernel
theorem dX12_death_27 : decode cX12_death 27 = .ok (.goto 8, 3) := by decide +kernel
theorem dX12_death_30 : decode cX12_death 30 = .ok (.aload_n 0, 1) := by decide +kernel
theorem dX12_death_31 : decode cX12_death 31 = .ok (.iload_n 1, 1) := by decide +kernel
theorem dX12_death_32 : decode cX12_death 32 = .ok (.invokevirtual 167, 3) := by decide +kernel
theorem dX12_death_35 : decode cX12_death 35 = .ok (.ireturn, 1) := by decide +kernel
theorem dX12_areOn_0 : decode cX12_areOn 0 = .ok (.aload_n 0, 1) := by decide +kernel
theorem dX12_areOn_1 : decode cX12_areOn 1 = .ok (.iload_n 1, 1) := by decide +kernel
theorem dX12_areOn_2 : decode cX12_areOn 2 = .ok (.invokevirtual 113, 3) := by decide +kernel
theorem dX12_areOn_5 : decode cX12_areOn 5 = .ok (.ifCond .ne 47, 3) := by decide +kernel
theorem dX12_areOn_8 : decode cX12_areOn 8 = .ok (.aload_n 0, 1) := by decide +kernel
theorem dX12_areOn_9 : decode cX12_areOn 9 = .ok (.iload_n 1, 1) := by decide +kernel
theorem dX12_areOn_10 : decode cX12_areOn 10 = .ok (.iconst 0, 1) := by decide +kernel
theorem dX12_areOn_11 : decode cX12_areOn 11 = .ok (.invokevirtual 116, 3) := by decide +kernel
theorem dX12_areOn_14 : decode cX12_areOn 14 = .ok (.iload_n 2, 1) := by decide +kernel
theorem dX12_areOn_15 : decode cX12_areOn 15 = .ok (.if_icmp .ne 13, 3) := by decide +kernel
theorem dX12_areOn_18 : decode cX12_areOn 18 = .ok (.aload_n 0, 1) := by decide +kernel
theorem dX12_areOn_19 : decode cX12_areOn 19 = .ok (.iload_n 1, 1) := by decide +kernel
theorem dX12_areOn_20 : decode cX12_areOn 20 = .ok (.iconst 1, 1) := by decide +kernel
theorem dX12_areOn_21 : decode cX12_areOn 21 = .ok (.invokevirtual 116, 3) := by decide +kernel
theorem dX12_areOn_24 : decode cX12_areOn 24 = .ok (.iload_n 3, 1) := by decide +kernel
theorem dX12_areOn_25 : decode cX12_areOn 25 = .ok (.if_icmp .eq 23, 3) := by decide +kernel
theorem dX12_areOn_28 : decode cX12_areOn 28 = .ok (.aload_n 0, 1) := by decide +kernel
theorem dX12_areOn_29 : decode cX12_areOn 29 = .ok (.iload_n 1, 1) := by decide +kernel
theorem dX12_areOn_30 : decode cX12_areOn 30 = .ok (.iconst 0, 1) := by decide +kernel
theorem dX12_areOn_31 : decode cX12_areOn 31 = .ok (.invokevirtual 116, 3) := by decide +kernel
theorem dX12_areOn_34 : decode cX12_areOn 34 = .ok (.iload_n 3, 1) := by decide +kernel
theorem dX12_areOn_35 : decode cX12_areOn 35 = .ok (.if_icmp .ne 17, 3) := by decide +kernel
theorem dX12_areOn_38 : decode cX12_areOn 38 = .ok (.aload_n 0, 1) := by decide +kernel
theorem dX12_areOn_39 : decode cX12_areOn 39 = .ok (.iload_n 1, 1) := by decide +kernel
theorem dX12_areOn_40 : decode cX12_areOn 40 = .ok (.iconst 1, 1) := by decide +kernel
theorem dX12_areOn_41 : decode cX12_areOn 41 = .ok (.invokevirtual 116, 3) := by decide +kernel
theorem dX12_areOn_44 : decode cX12_areOn 44 = .ok (.iload_n 2, 1) := by decide +kernel
theorem dX12_areOn_45 : decode cX12_areOn 45 = .ok (.if_icmp .ne 7, 3) := by decide +kernel
theorem dX12_areOn_48 : decode cX12_areOn 48 = .ok (.iconst 1, 1) := by decide +kernel
theorem dX12_areOn_49 : decode cX12_areOn 49 = .ok (.goto 4, 3) := by decide +kernel
theorem dX12_areOn_52 : decode cX12_areOn 52 = .ok (.iconst 0, 1) := by decide +kernel
theorem dX12_areOn_53 : decode cX12_areOn 53 = .ok (.ireturn, 1) := by decide +kernel
theorem dX12_harmOf_0 : decode cX12_harmOf 0 = .ok (.iconst (-1), 1) := by decide +kernel
theorem dX12_harmOf_1 : decode cX12_harmOf 1 = .ok (.istore_n 3, 1) := by decide +kernel
theorem dX12_harmOf_2 : decode cX12_harmOf 2 = .ok (.iconst 0, 1) := by decide +kernel
theorem dX12_harmOf_3 : decode cX12_harmOf 3 = .ok (.istore 4, 2) := by decide +kernel
theorem dX12_harmOf_5 : decode cX12_harmOf 5 = .ok (.iload 4, 2) := by decide +kernel
theorem dX12_harmOf_7 : decode cX12_harmOf 7 = .ok (.aload_n 0, 1) := by decide +kernel
theorem dX12_harmOf_8 : decode cX12_harmOf 8 = .ok (.getfield 91, 3) := by decide +kernel
theorem dX12_harmOf_11 : decode cX12_harmOf 11 = .ok (.if_icmp .ge 86, 3) := by decide +kernel
theorem dX12_harmOf_14 : decode cX12_harmOf 14 = .ok (.aload_n 0, 1) := by decide +kernel
theorem dX12_harmOf_15 : decode cX12_harmOf 15 = .ok (.iload_n 1, 1) := by decide +kernel
theorem dX12_harmOf_16 : decode cX12_harmOf 16 = .ok (.invokevirtual 143, 3) := by decide +kernel
theorem dX12_harmOf_19 : decode cX12_harmOf 19 = .ok (.ifCond .eq 78, 3) := by decide +kernel
theorem dX12_harmOf_22 : decode cX12_harmOf 22 = .ok (.aload_n 0, 1) := by decide +kernel
theorem dX12_harmOf_23 : decode cX12_harmOf 23 = .ok (.iload_n 2, 1) := by decide +kernel
theorem dX12_harmOf_24 : decode cX12_harmOf 24 = .ok (.invokevirtual 143, 3) := by decide +kernel
theorem dX12_harmOf_27 : decode cX12_harmOf 27 = .ok (.ifCond .eq 70, 3) := by decide +kernel
theorem dX12_harmOf_30 : decode cX12_harmOf 30 = .ok (.aload_n 0, 1) := by decide +kernel
theorem dX12_harmOf_31 : decode cX12_harmOf 31 = .ok (.iload 4, 2) := by decide +kernel
theorem dX12_harmOf_33 : decode cX12_harmOf 33 = .ok (.iload_n 1, 1) := by decide +kernel
theorem dX12_harmOf_34 : decode cX12_harmOf 34 = .ok (.iload_n 2, 1) := by decide +kernel
theorem dX12_harmOf_35 : decode cX12_harmOf 35 = .ok (.invokevirtual 170, 3) := by decide +kernel
theorem dX12_harmOf_38 : decode cX12_harmOf 38 = .ok (.ifCond .eq 38, 3) := by decide +kernel
theorem dX12_harmOf_41 : decode cX12_harmOf 41 = .ok (.iload_n 3, 1) := by decide +kernel
theorem dX12_harmOf_42 : decode cX12_harmOf 42 = .ok (.iconst (-1), 1) := by decide +kernel
theorem dX12_harmOf_43 : decode cX12_harmOf 43 = .ok (.if_icmp .eq 29, 3) := by decide +kernel
theorem dX12_harmOf_46 : decode cX12_harmOf 46 = .ok (.aload_n 0, 1) := by decide +kernel
theorem dX12_harmOf_47 : decode cX12_harmOf 47 = .ok (.getfield 16, 3) := by decide +kernel
theorem dX12_harmOf_50 : decode cX12_harmOf 50 = .ok (.bipush 7, 2) := by decide +kernel
theorem dX12_harmOf_52 : decode cX12_harmOf 52 = .ok (.iload 4, 2) := by decide +kernel
theorem dX12_harmOf_54 : decode cX12_harmOf 54 = .ok (.imul, 1) := by decide +kernel
theorem dX12_harmOf_55 : decode cX12_harmOf 55 = .ok (.iconst 1, 1) := by decide +kernel
theorem dX12_harmOf_56 : decode cX12_harmOf 56 = .ok (.iadd, 1) := by decide +kernel
theorem dX12_harmOf_57 : decode cX12_harmOf 57 = .ok (.iaload, 1) := by decide +kernel
theorem dX12_harmOf_58 : decode cX12_harmOf 58 = .ok (.aload_n 0, 1) := by decide +kernel
theorem dX12_harmOf_59 : decode cX12_harmOf 59 = .ok (.getfield 16, 3) := by decide +kernel
theorem dX12_harmOf_62 : decode cX12_harmOf 62 = .ok (.bipush 7, 2) := by decide +kernel
theorem dX12_harmOf_64 : decode cX12_harmOf 64 = .ok (.iload_n 3, 1) := by decide +kernel
theorem dX12_harmOf_65 : decode cX12_harmOf 65 = .ok (.imul, 1) := by decide +kernel
theorem dX12_harmOf_66 : decode cX12_harmOf 66 = .ok (.iconst 1, 1) := by decide +kernel
theorem dX12_harmOf_67 : decode cX12_harmOf 67 = .ok (.iadd, 1) := by decide +kernel
theorem dX12_harmOf_68 : decode cX12_harmOf 68 = .ok (.iaload, 1) := by decide +kernel
theorem dX12_harmOf_69 : decode cX12_harmOf 69 = .ok (.if_icmp .le 7, 3) := by decide +kernel
theorem dX12_harmOf_72 : decode cX12_harmOf 72 = .ok (.iconst 1, 1) := by decide +kernel
theorem dX12_harmOf_73 : decode cX12_harmOf 73 = .ok (.goto 4, 3) := by decide +kernel
theorem dX12_harmOf_76 : decode cX12_harmOf 76 = .ok (.iconst 0, 1) := by decide +kernel
theorem dX12_harmOf_77 : decode cX12_harmOf 77 = .ok (.istore 5, 2) := by decide +kernel
theorem dX12_harmOf_79 : decode cX12_harmOf 79 = .ok (.iload 5, 2) := by decide +kernel
theorem dX12_harmOf_81 : decode cX12_harmOf 81 = .ok (.ifCond .eq 8, 3) := by decide +kernel
theorem dX12_harmOf_84 : decode cX12_harmOf 84 = .ok (.iload 4, 2) := by decide +kernel
theorem dX12_harmOf_86 : decode cX12_harmOf 86 = .ok (.goto 4, 3) := by decide +kernel
theorem dX12_harmOf_89 : decode cX12_harmOf 89 = .ok (.iload_n 3, 1) := by decide +kernel
theorem dX12_harmOf_90 : decode cX12_harmOf 90 = .ok (.istore_n 3, 1) := by decide +kernel
theorem dX12_harmOf_91 : decode cX12_harmOf 91 = .ok (.iinc 4 1, 3) := by decide +kernel
theorem dX12_harmOf_94 : decode cX12_harmOf 94 = .ok (.goto (-89), 3) := by decide +kernel
theorem dX12_harmOf_97 : decode cX12_harmOf 97 = .ok (.iload_n 3, 1) := by decide +kernel
theorem dX12_harmOf_98 : decode cX12_harmOf 98 = .ok (.ireturn, 1) := by decide +kernel
theorem dX12_mayHarm_0 : decode cX12_mayHarm 0 = .ok (.iload_n 1, 1) := by decide +kernel
theorem dX12_mayHarm_1 : decode cX12_mayHarm 1 = .ok (.iload_n 2, 1) := by decide +kernel
theorem dX12_mayHarm_2 : decode cX12_mayHarm 2 = .ok (.invokestatic 173, 3) := by decide +kernel
theorem dX12_mayHarm_5 : decode cX12_mayHarm 5 = .ok (.ifCond .eq 12, 3) := by decide +kernel
theorem dX12_mayHarm_8 : decode cX12_mayHarm 8 = .ok (.aload_n 0, 1) := by decide +kernel
theorem dX12_mayHarm_9 : decode cX12_mayHarm 9 = .ok (.iload_n 1, 1) := by decide +kernel
theorem dX12_mayHarm_10 : decode cX12_mayHarm 10 = .ok (.iload_n 2, 1) := by decide +kernel
theorem dX12_mayHarm_11 : decode cX12_mayHarm 11 = .ok (.invokevirtual 176, 3) := by decide +kernel
theorem dX12_mayHarm_14 : decode cX12_mayHarm 14 = .ok (.goto 5, 3) := by decide +kernel
theorem dX12_mayHarm_17 : decode cX12_mayHarm 17 = .ok (.bipush (-101), 2) := by decide +kernel
theorem dX12_mayHarm_19 : decode cX12_mayHarm 19 = .ok (.ireturn, 1) := by decide +kernel
theorem dX12_harm_0 : decode cX12_harm 0 = .ok (.iload_n 1, 1) := by decide +kernel
theorem dX12_harm_1 : decode cX12_harm 1 = .ok (.iload_n 2, 1) := by decide +kernel
theorem dX12_harm_2 : decode cX12_harm 2 = .ok (.invokestatic 173, 3) := by decide +kernel
theorem dX12_harm_5 : decode cX12_harm 5 = .ok (.ifCond .ne 6, 3) := by decide +kernel
theorem dX12_harm_8 : decode cX12_harm 8 = .ok (.bipush (-101), 2) := by decide +kernel
theorem dX12_harm_10 : decode cX12_harm 10 = .ok (.ireturn, 1) := by decide +kernel
theorem dX12_harm_11 : decode cX12_harm 11 = .ok (.aload_n 0, 1) := by decide +kernel
theorem dX12_harm_12 : decode cX12_harm 12 = .ok (.iload_n 1, 1) := by decide +kernel
theorem dX12_harm_13 : decode cX12_harm 13 = .ok (.iload_n 2, 1) := by decide +kernel
theorem dX12_harm_14 : decode cX12_harm 14 = .ok (.invokevirtual 176, 3) := by decide +kernel
theorem dX12_harm_17 : decode cX12_harm 17 = .ok (.istore_n 3, 1) := by decide +kernel
theorem dX12_harm_18 : decode cX12_harm 18 = .ok (.iload_n 3, 1) := by decide +kernel
theorem dX12_harm_19 : decode cX12_harm 19 = .ok (.iconst (-1), 1) := by decide +kernel
theorem dX12_harm_20 : decode cX12_harm 20 = .ok (.if_icmp .ne 6, 3) := by decide +kernel
theorem dX12_harm_23 : decode cX12_harm 23 = .ok (.bipush (-103), 2) := by decide +kernel
theorem dX12_harm_25 : decode cX12_harm 25 = .ok (.ireturn, 1) := by decide +kernel
theorem dX12_harm_26 : decode cX12_harm 26 = .ok (.aload_n 0, 1) := by decide +kernel
theorem dX12_harm_27 : decode cX12_harm 27 = .ok (.getfield 94, 3) := by decide +kernel
theorem dX12_harm_30 : decode cX12_harm 30 = .ok (.bipush 12, 2) := by decide +kernel
theorem dX12_harm_32 : decode cX12_harm 32 = .ok (.if_icmp .ne 6, 3) := by decide +kernel
theorem dX12_harm_35 : decode cX12_harm 35 = .ok (.bipush (-104), 2) := by decide +kernel
theorem dX12_harm_37 : decode cX12_harm 37 = .ok (.ireturn, 1) := by decide +kernel
theorem dX12_harm_38 : decode cX12_harm 38 = .ok (.aload_n 0, 1) := by decide +kernel
theorem dX12_harm_39 : decode cX12_harm 39 = .ok (.getfield 22, 3) := by decide +kernel
theorem dX12_harm_42 : decode cX12_harm 42 = .ok (.iconst 2, 1) := by decide +kernel
theorem dX12_harm_43 : decode cX12_harm 43 = .ok (.aload_n 0, 1) := by decide +kernel
theorem dX12_harm_44 : decode cX12_harm 44 = .ok (.getfield 94, 3) := by decide +kernel
theorem dX12_harm_47 : decode cX12_harm 47 = .ok (.imul, 1) := by decide +kernel
theorem dX12_harm_48 : decode cX12_harm 48 = .ok (.iload_n 1, 1) := by decide +kernel
theorem dX12_harm_49 : decode cX12_harm 49 = .ok (.iastore, 1) := by decide +kernel
theorem dX12_harm_50 : decode cX12_harm 50 = .ok (.aload_n 0, 1) := by decide +kernel
theorem dX12_harm_51 : decode cX12_harm 51 = .ok (.getfield 22, 3) := by decide +kernel
theorem dX12_harm_54 : decode cX12_harm 54 = .ok (.iconst 2, 1) := by decide +kernel
theorem dX12_harm_55 : decode cX12_harm 55 = .ok (.aload_n 0, 1) := by decide +kernel
theorem dX12_harm_56 : decode cX12_harm 56 = .ok (.getfield 94, 3) := by decide +kernel
theorem dX12_harm_59 : decode cX12_harm 59 = .ok (.imul, 1) := by decide +kernel
theorem dX12_harm_60 : decode cX12_harm 60 = .ok (.iconst 1, 1) := by decide +kernel
theorem dX12_harm_61 : decode cX12_harm 61 = .ok (.iadd, 1) := by decide +kernel
theorem dX12_harm_62 : decode cX12_harm 62 = .ok (.iload_n 2, 1) := by decide +kernel
theorem dX12_harm_63 : decode cX12_harm 63 = .ok (.iastore, 1) := by decide +kernel
theorem dX12_harm_64 : decode cX12_harm 64 = .ok (.aload_n 0, 1) := by decide +kernel
theorem dX12_harm_65 : decode cX12_harm 65 = .ok (.dup, 1) := by decide +kernel
theorem dX12_harm_66 : decode cX12_harm 66 = .ok (.getfield 94, 3) := by decide +kernel
theorem dX12_harm_69 : decode cX12_harm 69 = .ok (.iconst 1, 1) := by decide +kernel
theorem dX12_harm_70 : decode cX12_harm 70 = .ok (.iadd, 1) := by decide +kernel
theorem dX12_harm_71 : decode cX12_harm 71 = .ok (.putfield 94, 3) := by decide +kernel
theorem dX12_harm_74 : decode cX12_harm 74 = .ok (.iload_n 3, 1) := by decide +kernel
theorem dX12_harm_75 : decode cX12_harm 75 = .ok (.ireturn, 1) := by decide +kernel
theorem dX12_ended_0 : decode cX12_ended 0 = .ok (.iconst 0, 1) := by decide +kernel
theorem dX12_ended_1 : decode cX12_ended 1 = .ok (.istore_n 1, 1) := by decide +kernel
theorem dX12_ended_2 : decode cX12_ended 2 = .ok (.iconst 0, 1) := by decide +kernel
theorem dX12_ended_3 : decode cX12_ended 3 = .ok (.istore_n 2, 1) := by decide +kernel
theorem dX12_ended_4 : decode cX12_ended 4 = .ok (.iload_n 2, 1) := by decide +kernel
theorem dX12_ended_5 : decode cX12_ended 5 = .ok (.iconst 2, 1) := by decide +kernel
theorem dX12_ended_6 : decode cX12_ended 6 = .ok (.aload_n 0, 1) := by decide +kernel
theorem dX12_ended_7 : decode cX12_ended 7 = .ok (.getfield 91, 3) := by decide +kernel
theorem dX12_ended_10 : decode cX12_ended 10 = .ok (.imul, 1) := by decide +kernel
theorem dX12_ended_11 : decode cX12_ended 11 = .ok (.if_icmp .ge 47, 3) := by decide +kernel
theorem dX12_ended_14 : decode cX12_ended 14 = .ok (.bipush 7, 2) := by decide +kernel
theorem dX12_ended_16 : decode cX12_ended 16 = .ok (.iload_n 2, 1) := by decide +kernel
theorem dX12_ended_17 : decode cX12_ended 17 = .ok (.iconst 2, 1) := by decide +kernel
theorem dX12_ended_18 : decode cX12_ended 18 = .ok (.idiv, 1) := by decide +kernel
theorem dX12_ended_19 : decode cX12_ended 19 = .ok (.imul, 1) := by decide +kernel
theorem dX12_ended_20 : decode cX12_ended 20 = .ok (.iconst 5, 1) := by decide +kernel
theorem dX12_ended_21 : decode cX12_ended 21 = .ok (.iadd, 1) := by decide +kernel
theorem dX12_ended_22 : decode cX12_ended 22 = .ok (.iload_n 2, 1) := by decide +kernel
theorem dX12_ended_23 : decode cX12_ended 23 = .ok (.iconst 2, 1) := by decide +kernel
theorem dX12_ended_24 : decode cX12_ended 24 = .ok (.irem, 1) := by decide +kernel
theorem dX12_ended_25 : decode cX12_ended 25 = .ok (.iadd, 1) := by decide +kernel
theorem dX12_ended_26 : decode cX12_ended 26 = .ok (.istore_n 3, 1) := by decide +kernel
theorem dX12_ended_27 : decode cX12_ended 27 = .ok (.iload_n 1, 1) := by decide +kernel
theorem dX12_ended_28 : decode cX12_ended 28 = .ok (.aload_n 0, 1) := by decide +kernel
theorem dX12_ended_29 : decode cX12_ended 29 = .ok (.getfield 16, 3) := by decide +kernel
theorem dX12_ended_32 : decode cX12_ended 32 = .ok (.iload_n 3, 1) := by decide +kernel
theorem dX12_ended_33 : decode cX12_ended 33 = .ok (.iaload, 1) := by decide +kernel
theorem dX12_ended_34 : decode cX12_ended 34 = .ok (.iconst (-1), 1) := by decide +kernel
theorem dX12_ended_35 : decode cX12_ended 35 = .ok (.if_icmp .ne 7, 3) := by decide +kernel
theorem dX12_ended_38 : decode cX12_ended 38 = .ok (.iconst 0, 1) := by decide +kernel
theorem dX12_ended_39 : decode cX12_ended 39 = .ok (.goto 4, 3) := by decide +kernel
theorem dX12_ended_42 : decode cX12_ended 42 = .ok (.iconst 1, 1) := by decide +kernel
theorem dX12_ended_43 : decode cX12_ended 43 = .ok (.iadd, 1) := by decide +kernel
theorem dX12_ended_44 : decode cX12_ended 44 = .ok (.istore_n 1, 1) := by decide +kernel
theorem dX12_ended_45 : decode cX12_ended 45 = .ok (.aload_n 0, 1) := by decide +kernel
theorem dX12_ended_46 : decode cX12_ended 46 = .ok (.getfield 16, 3) := by decide +kernel
theorem dX12_ended_49 : decode cX12_ended 49 = .ok (.iload_n 3, 1) := by decide +kernel
theorem dX12_ended_50 : decode cX12_ended 50 = .ok (.iconst (-1), 1) := by decide +kernel
theorem dX12_ended_51 : decode cX12_ended 51 = .ok (.iastore, 1) := by decide +kernel
theorem dX12_ended_52 : decode cX12_ended 52 = .ok (.iinc 2 1, 3) := by decide +kernel
theorem dX12_ended_55 : decode cX12_ended 55 = .ok (.goto (-51), 3) := by decide +kernel
theorem dX12_ended_58 : decode cX12_ended 58 = .ok (.iconst 0, 1) := by decide +kernel
theorem dX12_ended_59 : decode cX12_ended 59 = .ok (.istore_n 2, 1) := by decide +kernel
theorem dX12_ended_60 : decode cX12_ended 60 = .ok (.iload_n 2, 1) := by decide +kernel
theorem dX12_ended_61 : decode cX12_ended 61 = .ok (.bipush 6, 2) := by decide +kernel
theorem dX12_ended_63 : decode cX12_ended 63 = .ok (.if_icmp .ge 49, 3) := by decide +kernel
theorem dX12_ended_66 : decode cX12_ended 66 = .ok (.aload_n 0, 1) := by decide +kernel
theorem dX12_ended_67 : decode cX12_ended 67 = .ok (.getfield 19, 3) := by decide +kernel
theorem dX12_ended_70 : decode cX12_ended 70 = .ok (.iconst 3, 1) := by decide +kernel
theorem dX12_ended_71 : decode cX12_ended 71 = .ok (.iload_n 2, 1) := by decide +kernel
theorem dX12_ended_72 : decode cX12_ended 72 = .ok (.imul, 1) := by decide +kernel
theorem dX12_ended_73 : decode cX12_ended 73 = .ok (.aload_n 0, 1) := by decide +kernel
theorem dX12_ended_74 : decode cX12_ended 74 = .ok (.iload_n 2, 1) := by decide +kernel
theorem dX12_ended_75 : decode cX12_ended 75 = .ok (.invokevirtual 143, 3) := by decide +kernel
theorem dX12_ended_78 : decode cX12_ended 78 = .ok (.ifCond .eq 19, 3) := by decide +kernel
theorem dX12_ended_81 : decode cX12_ended 81 = .ok (.aload_n 0, 1) := by decide +kernel
theorem dX12_ended_82 : decode cX12_ended 82 = .ok (.getfield 19, 3) := by decide +kernel
theorem dX12_ended_85 : decode cX12_ended 85 = .ok (.iconst 3, 1) := by decide +kernel
theorem dX12_ended_86 : decode cX12_ended 86 = .ok (.iload_n 2, 1) := by decide +kernel
theorem dX12_ended_87 : decode cX12_ended 87 = .ok (.imul, 1) := by decide +kernel
theorem dX12_ended_88 : decode cX12_ended 88 = .ok (.iaload, 1) := by decide +kernel
theorem dX12_ended_89 : decode cX12_ended 89 = .ok (.iconst 2, 1) := by decide +kernel
theorem dX12_ended_90 : decode cX12_ended 90 = .ok (.iadd, 1) := by decide +kernel
theorem dX12_ended_91 : decode cX12_ended 91 = .ok (.invokestatic 150, 3) := by decide +kernel
theorem dX12_ended_94 : decode cX12_ended 94 = .ok (.goto 11, 3) := by decide +kernel
theorem dX12_ended_97 : decode cX12_ended 97 = .ok (.aload_n 0, 1) := by decide +kernel
theorem dX12_ended_98 : decode cX12_ended 98 = .ok (.getfield 19, 3) := by decide +kernel
theorem dX12_ended_101 : decode cX12_ended 101 = .ok (.iconst 3, 1) := by decide +kernel
theorem dX12_ended_102 : decode cX12_ended 102 = .ok (.iload_n 2, 1) := by decide +kernel
theorem dX12_ended_103 : decode cX12_ended 103 = .ok (.imul, 1) := by decide +kernel
theorem dX12_ended_104 : decode cX12_ended 104 = .ok (.iaload, 1) := by decide +kernel
theorem dX12_ended_105 : decode cX12_ended 105 = .ok (.iastore, 1) := by decide +kernel
theorem dX12_ended_106 : decode cX12_ended 106 = .ok (.iinc 2 1, 3) := by decide +kernel
theorem dX12_ended_109 : decode cX12_ended 109 = .ok (.goto (-49), 3) := by decide +kernel
theorem dX12_ended_112 : decode cX12_ended 112 = .ok (.iload_n 1, 1) := by decide +kernel
theorem dX12_ended_113 : decode cX12_ended 113 = .ok (.ireturn, 1) := by decide +kernel
theorem dX12_season_0 : decode cX12_season 0 = .ok (.aload_n 0, 1) := by decide +kernel
theorem dX12_season_1 : decode cX12_season 1 = .ok (.invokevirtual 139, 3) := by decide +kernel
theorem dX12_season_4 : decode cX12_season 4 = .ok (.ifCond .eq 8, 3) := by decide +kernel
theorem dX12_season_7 : decode cX12_season 7 = .ok (.bipush (-103), 2) := by decide +kernel
theorem dX12_season_9 : decode cX12_season 9 = .ok (.goto 7, 3) := by decide +kernel
theorem dX12_season_12 : decode cX12_season 12 = .ok (.aload_n 0, 1) := by decide +kernel
theorem dX12_season_13 : decode cX12_season 13 = .ok (.invokevirtual 179, 3) := by decide +kernel
theorem dX12_season_16 : decode cX12_season 16 = .ok (.ireturn, 1) := by decide +kernel
theorem dX12_copy_0 : decode cX12_copy 0 = .ok (.iconst 0, 1) := by decide +kernel
theorem dX12_copy_1 : decode cX12_copy 1 = .ok (.istore_n 2, 1) := by decide +kernel
theorem dX12_copy_2 : decode cX12_copy 2 = .ok (.iload_n 2, 1) := by decide +kernel
theorem dX12_copy_3 : decode cX12_copy 3 = .ok (.aload_n 0, 1) := by decide +kernel
theorem dX12_copy_4 : decode cX12_copy 4 = .ok (.arraylength, 1) := by decide +kernel
theorem dX12_copy_5 : decode cX12_copy 5 = .ok (.if_icmp .ge 15, 3) := by decide +kernel
theorem dX12_copy_8 : decode cX12_copy 8 = .ok (.aload_n 1, 1) := by decide +kernel
theorem dX12_copy_9 : decode cX12_copy 9 = .ok (.iload_n 2, 1) := by decide +kernel
theorem dX12_copy_10 : decode cX12_copy 10 = .ok (.aload_n 0, 1) := by decide +kernel
theorem dX12_copy_11 : decode cX12_copy 11 = .ok (.iload_n 2, 1) := by decide +kernel
theorem dX12_copy_12 : decode cX12_copy 12 = .ok (.iaload, 1) := by decide +kernel
theorem dX12_copy_13 : decode cX12_copy 13 = .ok (.iastore, 1) := by decide +kernel
theorem dX12_copy_14 : decode cX12_copy 14 = .ok (.iinc 2 1, 3) := by decide +kernel
theorem dX12_copy_17 : decode cX12_copy 17 = .ok (.goto (-15), 3) := by decide +kernel
theorem dX12_copy_20 : decode cX12_copy 20 = .ok (.return_, 1) := by decide +kernel
theorem dX12_save_0 : decode cX12_save 0 = .ok (.aload_n 0, 1) := by decide +kernel
theorem dX12_save_1 : decode cX12_save 1 = .ok (.getfield 16, 3) := by decide +kernel
theorem dX12_save_4 : decode cX12_save 4 = .ok (.aload_n 0, 1) := by decide +kernel
theorem dX12_save_5 : decode cX12_save 5 = .ok (.getfield 25, 3) := by decide +kernel
theorem dX12_save_8 : decode cX12_save 8 = .ok (.invokestatic 182, 3) := by decide +kernel
theorem dX12_save_11 : decode cX12_save 11 = .ok (.aload_n 0, 1) := by decide +kernel
theorem dX12_save_12 : decode cX12_save 12 = .ok (.getfield 19, 3) := by decide +kernel
theorem dX12_save_15 : decode cX12_save 15 = .ok (.aload_n 0, 1) := by decide +kernel
theorem dX12_save_16 : decode cX12_save 16 = .ok (.getfield 28, 3) := by decide +kernel
theorem dX12_save_19 : decode cX12_save 19 = .ok (.invokestatic 182, 3) := by decide +kernel
theorem dX12_save_22 : decode cX12_save 22 = .ok (.return_, 1) := by decide +kernel
theorem dX12_layBack_0 : decode cX12_layBack 0 = .ok (.aload_n 0, 1) := by decide +kernel
theorem dX12_layBack_1 : decode cX12_layBack 1 = .ok (.getfield 25, 3) := by decide +kernel
theorem dX12_layBack_4 : decode cX12_layBack 4 = .ok (.aload_n 0, 1) := by decide +kernel
theorem dX12_layBack_5 : decode cX12_layBack 5 = .ok (.getfield 16, 3) := by decide +kernel
theorem dX12_layBack_8 : decode cX12_layBack 8 = .ok (.invokestatic 182, 3) := by decide +kernel
theorem dX12_layBack_11 : decode cX12_layBack 11 = .ok (.aload_n 0, 1) := by decide +kernel
theorem dX12_layBack_12 : decode cX12_layBack 12 = .ok (.getfield 28, 3) := by decide +kernel
theorem dX12_layBack_15 : decode cX12_layBack 15 = .ok (.aload_n 0, 1) := by decide +kernel
theorem dX12_layBack_16 : decode cX12_layBack 16 = .ok (.getfield 19, 3) := by decide +kernel
theorem dX12_layBack_19 : decode cX12_layBack 19 = .ok (.invokestatic 182, 3) := by decide +kernel
theorem dX12_layBack_22 : decode cX12_layBack 22 = .ok (.return_, 1) := by decide +kernel
theorem dX12_getsOn_0 : decode cX12_getsOn 0 = .ok (.aload_n 0, 1) := by decide +kernel
theorem dX12_getsOn_1 : decode cX12_getsOn 1 = .ok (.iload_n 2, 1) := by decide +kernel
theorem dX12_getsOn_2 : decode cX12_getsOn 2 = .ok (.iload_n 3, 1) := by decide +kernel
theorem dX12_getsOn_3 : decode cX12_getsOn 3 = .ok (.invokevirtual 116, 3) := by decide +kernel
theorem dX12_getsOn_6 : decode cX12_getsOn 6 = .ok (.iload_n 1, 1) := by decide +kernel
theorem dX12_getsOn_7 : decode cX12_getsOn 7 = .ok (.if_icmp .ne 5, 3) := by decide +kernel
theorem dX12_getsOn_10 : decode cX12_getsOn 10 = .ok (.iconst 0, 1) := by decide +kernel
theorem dX12_getsOn_11 : decode cX12_getsOn 11 = .ok (.ireturn, 1) := by decide +kernel
theorem dX12_getsOn_12 : decode cX12_getsOn 12 = .ok (.aload_n 0, 1) := by decide +kernel
theorem dX12_getsOn_13 : decode cX12_getsOn 13 = .ok (.iload_n 1, 1) := by decide +kernel
theorem dX12_getsOn_14 : decode cX12_getsOn 14 = .ok (.iload_n 2, 1) := by decide +kernel
theorem dX12_getsOn_15 : decode cX12_getsOn 15 = .ok (.iload_n 3, 1) := by decide +kernel
theorem dX12_getsOn_16 : decode cX12_getsOn 16 = .ok (.invokevirtual 153, 3) := by decide +kernel
theorem dX12_getsOn_19 : decode cX12_getsOn 19 = .ok (.ifCond .eq 13, 3) := by decide +kernel
theorem dX12_getsOn_22 : decode cX12_getsOn 22 = .ok (.aload_n 0, 1) := by decide +kernel
theorem dX12_getsOn_23 : decode cX12_getsOn 23 = .ok (.iload_n 1, 1) := by decide +kernel
theorem dX12_getsOn_24 : decode cX12_getsOn 24 = .ok (.iload_n 2, 1) := by decide +kernel
theorem dX12_getsOn_25 : decode cX12_getsOn 25 = .ok (.iload_n 3, 1) := by decide +kernel
theorem dX12_getsOn_26 : decode cX12_getsOn 26 = .ok (.invokevirtual 157, 3) := by decide +kernel
theorem dX12_getsOn_29 : decode cX12_getsOn 29 = .ok (.goto 4, 3) := by decide +kernel
theorem dX12_getsOn_32 : decode cX12_getsOn 32 = .ok (.iconst (-1), 1) := by decide +kernel
theorem dX12_getsOn_33 : decode cX12_getsOn 33 = .ok (.ireturn, 1) := by decide +kernel
theorem dX12_bothOn_0 : decode cX12_bothOn 0 = .ok (.aload_n 0, 1) := by decide +kernel
theorem dX12_bothOn_1 : decode cX12_bothOn 1 = .ok (.iload_n 2, 1) := by decide +kernel
theorem dX12_bothOn_2 : decode cX12_bothOn 2 = .ok (.iload_n 1, 1) := by decide +kernel
theorem dX12_bothOn_3 : decode cX12_bothOn 3 = .ok (.iconst 0, 1) := by decide +kernel
theorem dX12_bothOn_4 : decode cX12_bothOn 4 = .ok (.invokevirtual 186, 3) := by decide +kernel
theorem dX12_bothOn_7 : decode cX12_bothOn 7 = .ok (.istore 4, 2) := by decide +kernel
theorem dX12_bothOn_9 : decode cX12_bothOn 9 = .ok (.iload 4, 2) := by decide +kernel
theorem dX12_bothOn_11 : decode cX12_bothOn 11 = .ok (.iconst (-1), 1) := by decide +kernel
theorem dX12_bothOn_12 : decode cX12_bothOn 12 = .ok (.if_icmp .ne 7, 3) := by decide +kernel
theorem dX12_bothOn_15 : decode cX12_bothOn 15 = .ok (.iconst (-1), 1) := by decide +kernel
theorem dX12_bothOn_16 : decode cX12_bothOn 16 = .ok (.goto 10, 3) := by decide +kernel
theorem dX12_bothOn_19 : decode cX12_bothOn 19 = .ok (.aload_n 0, 1) := by decide +kernel
theorem dX12_bothOn_20 : decode cX12_bothOn 20 = .ok (.iload_n 3, 1) := by decide +kernel
theorem dX12_bothOn_21 : decode cX12_bothOn 21 = .ok (.iload_n 1, 1) := by decide +kernel
theorem dX12_bothOn_22 : decode cX12_bothOn 22 = .ok (.iconst 1, 1) := by decide +kernel
theorem dX12_bothOn_23 : decode cX12_bothOn 23 = .ok (.invokevirtual 186, 3) := by decide +kernel
theorem dX12_bothOn_26 : decode cX12_bothOn 26 = .ok (.istore 5, 2) := by decide +kernel
theorem dX12_bothOn_28 : decode cX12_bothOn 28 = .ok (.iload 5, 2) := by decide +kernel
theorem dX12_bothOn_30 : decode cX12_bothOn 30 = .ok (.iconst (-1), 1) := by decide +kernel
theorem dX12_bothOn_31 : decode cX12_bothOn 31 = .ok (.if_icmp .eq 27, 3) := by decide +kernel
theorem dX12_bothOn_34 : decode cX12_bothOn 34 = .ok (.aload_n 0, 1) := by decide +kernel
theorem dX12_bothOn_35 : decode cX12_bothOn 35 = .ok (.iload_n 1, 1) := by decide +kernel
theorem dX12_bothOn_36 : decode cX12_bothOn 36 = .ok (.iconst 0, 1) := by decide +kernel
theorem dX12_bothOn_37 : decode cX12_bothOn 37 = .ok (.invokevirtual 116, 3) := by decide +kernel
theorem dX12_bothOn_40 : decode cX12_bothOn 40 = .ok (.iload_n 2, 1) := by decide +kernel
theorem dX12_bothOn_41 : decode cX12_bothOn 41 = .ok (.if_icmp .ne 17, 3) := by decide +kernel
theorem dX12_bothOn_44 : decode cX12_bothOn 44 = .ok (.aload_n 0, 1) := by decide +kernel
theorem dX12_bothOn_45 : decode cX12_bothOn 45 = .ok (.iload_n 1, 1) := by decide +kernel
theorem dX12_bothOn_46 : decode cX12_bothOn 46 = .ok (.iconst 1, 1) := by decide +kernel
theorem dX12_bothOn_47 : decode cX12_bothOn 47 = .ok (.invokevirtual 116, 3) := by decide +kernel
theorem dX12_bothOn_50 : decode cX12_bothOn 50 = .ok (.iload_n 3, 1) := by decide +kernel
theorem dX12_bothOn_51 : decode cX12_bothOn 51 = .ok (.if_icmp .ne 7, 3) := by decide +kernel
theorem dX12_bothOn_54 : decode cX12_bothOn 54 = .ok (.iconst 1, 1) := by decide +kernel
theorem dX12_bothOn_55 : decode cX12_bothOn 55 = .ok (.goto 4, 3) := by decide +kernel
theorem dX12_bothOn_58 : decode cX12_bothOn 58 = .ok (.iconst 0, 1) := by decide +kernel
theorem dX12_bothOn_59 : decode cX12_bothOn 59 = .ok (.istore 6, 2) := by decide +kernel
theorem dX12_bothOn_61 : decode cX12_bothOn 61 = .ok (.aload_n 0, 1) := by decide +kernel
theorem dX12_bothOn_62 : decode cX12_bothOn 62 = .ok (.invokevirtual 189, 3) := by decide +kernel
theorem dX12_bothOn_65 : decode cX12_bothOn 65 = .ok (.iload 6, 2) := by decide +kernel
theorem dX12_bothOn_67 : decode cX12_bothOn 67 = .ok (.ifCond .eq 11, 3) := by decide +kernel
theorem dX12_bothOn_70 : decode cX12_bothOn 70 = .ok (.iload 4, 2) := by decide +kernel
theorem dX12_bothOn_72 : decode cX12_bothOn 72 = .ok (.iload 5, 2) := by decide +kernel
theorem dX12_bothOn_74 : decode cX12_bothOn 74 = .ok (.iadd, 1) := by decide +kernel
theorem dX12_bothOn_75 : decode cX12_bothOn 75 = .ok (.goto 4, 3) := by decide +kernel
theorem dX12_bothOn_78 : decode cX12_bothOn 78 = .ok (.iconst (-1), 1) := by decide +kernel
theorem dX12_bothOn_79 : decode cX12_bothOn 79 = .ok (.ireturn, 1) := by decide +kernel
theorem dX12_comeBy_0 : decode cX12_comeBy 0 = .ok (.iload_n 1, 1) := by decide +kernel
theorem dX12_comeBy_1 : decode cX12_comeBy 1 = .ok (.iload_n 2, 1) := by decide +kernel
theorem dX12_comeBy_2 : decode cX12_comeBy 2 = .ok (.invokestatic 173, 3) := by decide +kernel
theorem dX12_comeBy_5 : decode cX12_comeBy 5 = .ok (.ifCond .ne 6, 3) := by decide +kernel
theorem dX12_comeBy_8 : decode cX12_comeBy 8 = .ok (.bipush (-101), 2) := by decide +kernel
theorem dX12_comeBy_10 : decode cX12_comeBy 10 = .ok (.ireturn, 1) := by decide +kernel
theorem dX12_comeBy_11 : decode cX12_comeBy 11 = .ok (.iload_n 3, 1) := by decide +kernel
theorem dX12_comeBy_12 : decode cX12_comeBy 12 = .ok (.i2l, 1) := by decide +kernel
theorem dX12_comeBy_13 : decode cX12_comeBy 13 = .ok (.lconst 0, 1) := by decide +kernel
theorem dX12_comeBy_14 : decode cX12_comeBy 14 = .ok (.lconst 1, 1) := by decide +kernel
theorem dX12_comeBy_15 : decode cX12_comeBy 15 = .ok (.invokestatic 62, 3) := by decide +kernel
theorem dX12_comeBy_18 : decode cX12_comeBy 18 = .ok (.ifCond .ne 6, 3) := by decide +kernel
theorem dX12_comeBy_21 : decode cX12_comeBy 21 = .ok (.bipush (-102), 2) := by decide +kernel
theorem dX12_comeBy_23 : decode cX12_comeBy 23 = .ok (.ireturn, 1) := by decide +kernel
theorem dX12_comeBy_24 : decode cX12_comeBy 24 = .ok (.aload_n 0, 1) := by decide +kernel
theorem dX12_comeBy_25 : decode cX12_comeBy 25 = .ok (.invokevirtual 139, 3) := by decide +kernel
theorem dX12_comeBy_28 : decode cX12_comeBy 28 = .ok (.ifCond .ne 19, 3) := by decide +kernel
theorem dX12_comeBy_31 : decode cX12_comeBy 31 = .ok (.aload_n 0, 1) := by decide +kernel
theorem dX12_comeBy_32 : decode cX12_comeBy 32 = .ok (.iload_n 1, 1) := by decide +kernel
theorem dX12_comeBy_33 : decode cX12_comeBy 33 = .ok (.invokevirtual 143, 3) := by decide +kernel
theorem dX12_comeBy_36 : decode cX12_comeBy 36 = .ok (.ifCond .eq 11, 3) := by decide +kernel
theorem dX12_comeBy_39 : decode cX12_comeBy 39 = .ok (.aload_n 0, 1) := by decide +kernel
theorem dX12_comeBy_40 : decode cX12_comeBy 40 = .ok (.iload_n 2, 1) := by decide +kernel
theorem dX12_comeBy_41 : decode cX12_comeBy 41 = .ok (.invokevirtual 143, 3) := by decide +kernel
theorem dX12_comeBy_44 : decode cX12_comeBy 44 = .ok (.ifCond .ne 6, 3) := by decide +kernel
theorem dX12_comeBy_47 : decode cX12_comeBy 47 = .ok (.bipush (-103), 2) := by decide +kernel
theorem dX12_comeBy_49 : decode cX12_comeBy 49 = .ok (.ireturn, 1) := by decide +kernel
theorem dX12_comeBy_50 : decode cX12_comeBy 50 = .ok (.aload_n 0, 1) := by decide +kernel
theorem dX12_comeBy_51 : decode cX12_comeBy 51 = .ok (.invokevirtual 192, 3) := by decide +kernel
theorem dX12_comeBy_54 : decode cX12_comeBy 54 = .ok (.iconst (-1), 1) := by decide +kernel
theorem dX12_comeBy_55 : decode cX12_comeBy 55 = .ok (.istore 4, 2) := by decide +kernel
theorem dX12_comeBy_57 : decode cX12_comeBy 57 = .ok (.iconst (-1), 1) := by decide +kernel
theorem dX12_comeBy_58 : decode cX12_comeBy 58 = .ok (.istore 5, 2) := by decide +kernel
theorem dX12_comeBy_60 : decode cX12_comeBy 60 = .ok (.iconst 0, 1) := by decide +kernel
theorem dX12_comeBy_61 : decode cX12_comeBy 61 = .ok (.istore 6, 2) := by decide +kernel
theorem dX12_comeBy_63 : decode cX12_comeBy 63 = .ok (.iload 6, 2) := by decide +kernel
theorem dX12_comeBy_65 : decode cX12_comeBy 65 = .ok (.iconst 2, 1) := by decide +kernel
theorem dX12_comeBy_66 : decode cX12_comeBy 66 = .ok (.aload_n 0, 1) := by decide +kernel
theorem dX12_comeBy_67 : decode cX12_comeBy 67 = .ok (.getfield 91, 3) := by decide +kernel
theorem dX12_comeBy_70 : decode cX12_comeBy 70 = .ok (.imul, 1) := by decide +kernel
theorem dX12_comeBy_71 : decode cX12_comeBy 71 = .ok (.if_icmp .ge 110, 3) := by decide +kernel
theorem dX12_comeBy_74 : decode cX12_comeBy 74 = .ok (.iload 6, 2) := by decide +kernel
theorem dX12_comeBy_76 : decode cX12_comeBy 76 = .ok (.iconst 2, 1) := by decide +kernel
theorem dX12_comeBy_77 : decode cX12_comeBy 77 = .ok (.idiv, 1) := by decide +kernel
theorem dX12_comeBy_78 : decode cX12_comeBy 78 = .ok (.istore 7, 2) := by decide +kernel
theorem dX12_comeBy_80 : decode cX12_comeBy 80 = .ok (.aload_n 0, 1) := by decide +kernel
theorem dX12_comeBy_81 : decode cX12_comeBy 81 = .ok (.iload 7, 2) := by decide +kernel
theorem dX12_comeBy_83 : decode cX12_comeBy 83 = .ok (.invokevirtual 113, 3) := by decide +kernel
theorem dX12_comeBy_86 : decode cX12_comeBy 86 = .ok (.ifCond .eq 7, 3) := by decide +kernel
theorem dX12_comeBy_89 : decode cX12_comeBy 89 = .ok (.iconst (-1), 1) := by decide +kernel
theorem dX12_comeBy_90 : decode cX12_comeBy 90 = .ok (.goto 29, 3) := by decide +kernel
theorem dX12_comeBy_93 : decode cX12_comeBy 93 = .ok (.iload 6, 2) := by decide +kernel
theorem dX12_comeBy_95 : decode cX12_comeBy 95 = .ok (.iconst 2, 1) := by decide +kernel
theorem dX12_comeBy_96 : decode cX12_comeBy 96 = .ok (.irem, 1) := by decide +kernel
theorem dX12_comeBy_97 : decode cX12_comeBy 97 = .ok (.ifCond .ne 14, 3) := by decide +kernel
theorem dX12_comeBy_100 : decode cX12_comeBy 100 = .ok (.aload_n 0, 1) := by decide +kernel
theorem dX12_comeBy_101 : decode cX12_comeBy 101 = .ok (.iload 7, 2) := by decide +kernel
theorem dX12_comeBy_103 : decode cX12_comeBy 103 = .ok (.iload_n 1, 1) := by decide +kernel
theorem dX12_comeBy_104 : decode cX12_comeBy 104 = .ok (.iload_n 2, 1) := by decide +kernel
theorem dX12_comeBy_105 : decode cX12_comeBy 105 = .ok (.invokevirtual 195, 3) := by decide +kernel
theorem dX12_comeBy_108 : decode cX12_comeBy 108 = .ok (.goto 11, 3) := by decide +kernel
theorem dX12_comeBy_111 : decode cX12_comeBy 111 = .ok (.aload_n 0, 1) := by decide +kernel
theorem dX12_comeBy_112 : decode cX12_comeBy 112 = .ok (.iload 7, 2) := by decide +kernel
theorem dX12_comeBy_114 : decode cX12_comeBy 114 = .ok (.iload_n 2, 1) := by decide +kernel
theorem dX12_comeBy_115 : decode cX12_comeBy 115 = .ok (.iload_n 1, 1) := by decide +kernel
theorem dX12_comeBy_116 : decode cX12_comeBy 116 = .ok (.invokevirtual 195, 3) := by decide +kernel
theorem dX12_comeBy_119 : decode cX12_comeBy 119 = .ok (.istore 8, 2) := by decide +kernel
theorem dX12_comeBy_121 : decode cX12_comeBy 121 = .ok (.iload 8, 2) := by decide +kernel
theorem dX12_comeBy_123 : decode cX12_comeBy 123 = .ok (.iconst (-1), 1) := by decide +kernel
theorem dX12_comeBy_124 : decode cX12_comeBy 124 = .ok (.if_icmp .eq 20, 3) := by decide +kernel
theorem dX12_comeBy_127 : decode cX12_comeBy 127 = .ok (.iload 4, 2) := by decide +kernel
theorem dX12_comeBy_129 : decode cX12_comeBy 129 = .ok (.iconst (-1), 1) := by decide +kernel
theorem dX12_comeBy_130 : decode cX12_comeBy 130 = .ok (.if_icmp .eq 10, 3) := by decide +kernel
theorem dX12_comeBy_133 : decode cX12_comeBy 133 = .ok (.iload 8, 2) := by decide +kernel
theorem dX12_comeBy_135 : decode cX12_comeBy 135 = .ok (.iload 4, 2) := by decide +kernel
theorem dX12_comeBy_137 : decode cX12_comeBy 137 = .ok (.if_icmp .ge 7, 3) := by decide +kernel
theorem dX12_comeBy_140 : decode cX12_comeBy 140 = .ok (.iconst 1, 1) := by decide +kernel
theorem dX12_comeBy_141 : decode cX12_comeBy 141 = .ok (.goto 4, 3) := by decide +kernel
theorem dX12_comeBy_144 : decode cX12_comeBy 144 = .ok (.iconst 0, 1) := by decide +kernel
theorem dX12_comeBy_145 : decode cX12_comeBy 145 = .ok (.istore 9, 2) := by decide +kernel
theorem dX12_comeBy_147 : decode cX12_comeBy 147 = .ok (.iload 9, 2) := by decide +kernel
theorem dX12_comeBy_149 : decode cX12_comeBy 149 = .ok (.ifCond .eq 8, 3) := by decide +kernel
theorem dX12_comeBy_152 : decode cX12_comeBy 152 = .ok (.iload 7, 2) := by decide +kernel
theorem dX12_comeBy_154 : decode cX12_comeBy 154 = .ok (.goto 5, 3) := by decide +kernel
theorem dX12_comeBy_157 : decode cX12_comeBy 157 = .ok (.iload 5, 2) := by decide +kernel
theorem dX12_comeBy_159 : decode cX12_comeBy 159 = .ok (.istore 5, 2) := by decide +kernel
theorem dX12_comeBy_161 : decode cX12_comeBy 161 = .ok (.iload 9, 2) := by decide +kernel
theorem dX12_comeBy_163 : decode cX12_comeBy 163 = .ok (.ifCond .eq 8, 3) := by decide +kernel
theorem dX12_comeBy_166 : decode cX12_comeBy 166 = .ok (.iload 8, 2) := by decide +kernel
theorem dX12_comeBy_168 : decode cX12_comeBy 168 = .ok (.goto 5, 3) := by decide +kernel
theorem dX12_comeBy_171 : decode cX12_comeBy 171 = .ok (.iload 4, 2) := by decide +kernel
theorem dX12_comeBy_173 : decode cX12_comeBy 173 = .ok (.istore 4, 2) := by decide +kernel
theorem dX12_comeBy_175 : decode cX12_comeBy 175 = .ok (.iinc 6 1, 3) := by decide +kernel
theorem dX12_comeBy_178 : decode cX12_comeBy 178 = .ok (.goto (-115), 3) := by decide +kernel
theorem dX12_comeBy_181 : decode cX12_comeBy 181 = .ok (.iload_n 3, 1) := by decide +kernel
theorem dX12_comeBy_182 : decode cX12_comeBy 182 = .ok (.ifCond .ne 8, 3) := by decide +kernel
theorem dX12_comeBy_185 : decode cX12_comeBy 185 = .ok (.iload 4, 2) := by decide +kernel
theorem dX12_comeBy_187 : decode cX12_comeBy 187 = .ok (.goto 5, 3) := by decide +kernel
theorem dX12_comeBy_190 : decode cX12_comeBy 190 = .ok (.iload 5, 2) := by decide +kernel
theorem dX12_comeBy_192 : decode cX12_comeBy 192 = .ok (.ireturn, 1) := by decide +kernel
theorem dX12_feudsOf_0 : decode cX12_feudsOf 0 = .ok (.iconst 0, 1) := by decide +kernel
theorem dX12_feudsOf_1 : decode cX12_feudsOf 1 = .ok (.istore_n 3, 1) := by decide +kernel
theorem dX12_feudsOf_2 : decode cX12_feudsOf 2 = .ok (.iconst 0, 1) := by decide +kernel
theorem dX12_feudsOf_3 : decode cX12_feudsOf 3 = .ok (.istore 4, 2) := by decide +kernel
theorem dX12_feudsOf_5 : decode cX12_feudsOf 5 = .ok (.iload 4, 2) := by decide +kernel
theorem dX12_feudsOf_7 : decode cX12_feudsOf 7 = .ok (.aload_n 0, 1) := by decide +kernel
theorem dX12_feudsOf_8 : decode cX12_feudsOf 8 = .ok (.getfield 91, 3) := by decide +kernel
theorem dX12_feudsOf_11 : decode cX12_feudsOf 11 = .ok (.if_icmp .ge 28, 3) := by decide +kernel
theorem dX12_feudsOf_14 : decode cX12_feudsOf 14 = .ok (.iload_n 3, 1) := by decide +kernel
theorem dX12_feudsOf_15 : decode cX12_feudsOf 15 = .ok (.aload_n 0, 1) := by decide +kernel
theorem dX12_feudsOf_16 : decode cX12_feudsOf 16 = .ok (.iload 4, 2) := by decide +kernel
theorem dX12_feudsOf_18 : decode cX12_feudsOf 18 = .ok (.iload_n 1, 1) := by decide +kernel
theorem dX12_feudsOf_19 : decode cX12_feudsOf 19 = .ok (.iload_n 2, 1) := by decide +kernel
theorem dX12_feudsOf_20 : decode cX12_feudsOf 20 = .ok (.invokevirtual 170, 3) := by decide +kernel
theorem dX12_feudsOf_23 : decode cX12_feudsOf 23 = .ok (.ifCond .eq 7, 3) := by decide +kernel
theorem dX12_feudsOf_26 : decode cX12_feudsOf 26 = .ok (.iconst 1, 1) := by decide +kernel
theorem dX12_feudsOf_27 : decode cX12_feudsOf 27 = .ok (.goto 4, 3) := by decide +kernel
theorem dX12_feudsOf_30 : decode cX12_feudsOf 30 = .ok (.iconst 0, 1) := by decide +kernel
theorem dX12_feudsOf_31 : decode cX12_feudsOf 31 = .ok (.iadd, 1) := by decide +kernel
theorem dX12_feudsOf_32 : decode cX12_feudsOf 32 = .ok (.istore_n 3, 1) := by decide +kernel
theorem dX12_feudsOf_33 : decode cX12_feudsOf 33 = .ok (.iinc 4 1, 3) := by decide +kernel
theorem dX12_feudsOf_36 : decode cX12_feudsOf 36 = .ok (.goto (-31), 3) := by decide +kernel
theorem dX12_feudsOf_39 : decode cX12_feudsOf 39 = .ok (.iload_n 3, 1) := by decide +kernel
theorem dX12_feudsOf_40 : decode cX12_feudsOf 40 = .ok (.ireturn, 1) := by decide +kernel
theorem dX12_marryOf_0 : decode cX12_marryOf 0 = .ok (.iconst 0, 1) := by decide +kernel
theorem dX12_marryOf_1 : decode cX12_marryOf 1 = .ok (.istore_n 2, 1) := by decide +kernel
theorem dX12_marryOf_2 : decode cX12_marryOf 2 = .ok (.iconst 0, 1) := by decide +kernel
theorem dX12_marryOf_3 : decode cX12_marryOf 3 = .ok (.istore_n 3, 1) := by decide +kernel
theorem dX12_marryOf_4 : decode cX12_marryOf 4 = .ok (.iload_n 3, 1) := by decide +kernel
theorem dX12_marryOf_5 : decode cX12_marryOf 5 = .ok (.bipush 6, 2) := by decide +kernel
theorem dX12_marryOf_7 : decode cX12_marryOf 7 = .ok (.if_icmp .ge 27, 3) := by decide +kernel
theorem dX12_marryOf_10 : decode cX12_marryOf 10 = .ok (.iload_n 2, 1) := by decide +kernel
theorem dX12_marryOf_11 : decode cX12_marryOf 11 = .ok (.aload_n 0, 1) := by decide +kernel
theorem dX12_marryOf_12 : decode cX12_marryOf 12 = .ok (.iload_n 3, 1) := by decide +kernel
theorem dX12_marryOf_13 : decode cX12_marryOf 13 = .ok (.invokevirtual 143, 3) := by decide +kernel
theorem dX12_marryOf_16 : decode cX12_marryOf 16 = .ok (.ifCond .eq 9, 3) := by decide +kernel
theorem dX12_marryOf_19 : decode cX12_marryOf 19 = .ok (.iconst 1, 1) := by decide +kernel
theorem dX12_marryOf_20 : decode cX12_marryOf 20 = .ok (.iload_n 3, 1) := by decide +kernel
theorem dX12_marryOf_21 : decode cX12_marryOf 21 = .ok (.ishl, 1) := by decide +kernel
theorem dX12_marryOf_22 : decode cX12_marryOf 22 = .ok (.goto 4, 3) := by decide +kernel
theorem dX12_marryOf_25 : decode cX12_marryOf 25 = .ok (.iconst 0, 1) := by decide +kernel
theorem dX12_marryOf_26 : decode cX12_marryOf 26 = .ok (.ior, 1) := by decide +kernel
theorem dX12_marryOf_27 : decode cX12_marryOf 27 = .ok (.istore_n 2, 1) := by decide +kernel
theorem dX12_marryOf_28 : decode cX12_marryOf 28 = .ok (.iinc 3 1, 3) := by decide +kernel
theorem dX12_marryOf_31 : decode cX12_marryOf 31 = .ok (.goto (-27), 3) := by decide +kernel
theorem dX12_marryOf_34 : decode cX12_marryOf 34 = .ok (.aload_n 0, 1) := by decide +kernel
theorem dX12_marryOf_35 : decode cX12_marryOf 35 = .ok (.getfield 31, 3) := by decide +kernel
theorem dX12_marryOf_38 : decode cX12_marryOf 38 = .ok (.iconst 0, 1) := by decide +kernel
theorem dX12_marryOf_39 : decode cX12_marryOf 39 = .ok (.iconst 0, 1) := by decide +kernel
theorem dX12_marryOf_40 : decode cX12_marryOf 40 = .ok (.iastore, 1) := by decide +kernel
theorem dX12_marryOf_41 : decode cX12_marryOf 41 = .ok (.iconst 1, 1) := by decide +kernel
theorem dX12_marryOf_42 : decode cX12_marryOf 42 = .ok (.istore_n 3, 1) := by decide +kernel
theorem dX12_marryOf_43 : decode cX12_marryOf 43 = .ok (.iload_n 3, 1) := by decide +kernel
theorem dX12_marryOf_44 : decode cX12_marryOf 44 = .ok (.bipush 64, 2) := by decide +kernel
theorem dX12_marryOf_46 : decode cX12_marryOf 46 = .ok (.if_icmp .ge 154, 3) := by decide +kernel
theorem dX12_marryOf_49 : decode cX12_marryOf 49 = .ok (.iconst 0, 1) := by decide +kernel
theorem dX12_marryOf_50 : decode cX12_marryOf 50 = .ok (.istore 4, 2) := by decide +kernel
theorem dX12_marryOf_52 : decode cX12_marryOf 52 = .ok (.iload_n 3, 1) := by decide +kernel
theorem dX12_marryOf_53 : decode cX12_marryOf 53 = .ok (.iload 4, 2) := by decide +kernel
theorem dX12_marryOf_55 : decode cX12_marryOf 55 = .ok (.ishr, 1) := by decide +kernel
theorem dX12_marryOf_56 : decode cX12_marryOf 56 = .ok (.iconst 1, 1) := by decide +kernel
theorem dX12_marryOf_57 : decode cX12_marryOf 57 = .ok (.iand, 1) := by decide +kernel
theorem dX12_marryOf_58 : decode cX12_marryOf 58 = .ok (.ifCond .ne 9, 3) := by decide +kernel
theorem dX12_marryOf_61 : decode cX12_marryOf 61 = .ok (.iinc 4 1, 3) := by decide +kernel
theorem dX12_marryOf_64 : decode cX12_marryOf 64 = .ok (.goto (-12), 3) := by decide +kernel
theorem dX12_marryOf_67 : decode cX12_marryOf 67 = .ok (.iload_n 3, 1) := by decide +kernel
theorem dX12_marryOf_68 : decode cX12_marryOf 68 = .ok (.iconst 1, 1) := by decide +kernel
theorem dX12_marryOf_69 : decode cX12_marryOf 69 = .ok (.iload 4, 2) := by decide +kernel
theorem dX12_marryOf_71 : decode cX12_marryOf 71 = .ok (.ishl, 1) := by decide +kernel
theorem dX12_marryOf_72 : decode cX12_marryOf 72 = .ok (.iconst (-1), 1) := by decide +kernel
theorem dX12_marryOf_73 : decode cX12_marryOf 73 = .ok (.ixor, 1) := by decide +kernel
theorem dX12_marryOf_74 : decode cX12_marryOf 74 = .ok (.iand, 1) := by decide +kernel
theorem dX12_marryOf_75 : decode cX12_marryOf 75 = .ok (.istore 5, 2) := by decide +kernel
theorem dX12_marryOf_77 : decode cX12_marryOf 77 = .ok (.aload_n 0, 1) := by decide +kernel
theorem dX12_marryOf_78 : decode cX12_marryOf 78 = .ok (.getfield 31, 3) := by decide +kernel
theorem dX12_marryOf_81 : decode cX12_marryOf 81 = .ok (.iload 5, 2) := by decide +kernel
theorem dX12_marryOf_83 : decode cX12_marryOf 83 = .ok (.iaload, 1) := by decide +kernel
theorem dX12_marryOf_84 : decode cX12_marryOf 84 = .ok (.istore 6, 2) := by decide +kernel
theorem dX12_marryOf_86 : decode cX12_marryOf 86 = .ok (.iload 4, 2) := by decide +kernel
theorem dX12_marryOf_88 : decode cX12_marryOf 88 = .ok (.iconst 1, 1) := by decide +kernel
theorem dX12_marryOf_89 : decode cX12_marryOf 89 = .ok (.iadd, 1) := by decide +kernel
theorem dX12_marryOf_90 : decode cX12_marryOf 90 = .ok (.istore 7, 2) := by decide +kernel
theorem dX12_marryOf_92 : decode cX12_marryOf 92 = .ok (.iload 7, 2) := by decide +kernel
theorem dX12_marryOf_94 : decode cX12_marryOf 94 = .ok (.bipush 6, 2) := by decide +kernel
theorem dX12_marryOf_96 : decode cX12_marryOf 96 = .ok (.if_icmp .ge 90, 3) := by decide +kernel
theorem dX12_marryOf_99 : decode cX12_marryOf 99 = .ok (.iload 5, 2) := by decide +kernel
theorem dX12_marryOf_101 : decode cX12_marryOf 101 = .ok (.iload 7, 2) := by decide +kernel
theorem dX12_marryOf_103 : decode cX12_marryOf 103 = .ok (.ishr, 1) := by decide +kernel
theorem dX12_marryOf_104 : decode cX12_marryOf 104 = .ok (.iconst 1, 1) := by decide +kernel
theorem dX12_marryOf_105 : decode cX12_marryOf 105 = .ok (.iand, 1) := by decide +kernel
theorem dX12_marryOf_106 : decode cX12_marryOf 106 = .ok (.iconst 1, 1) := by decide +kernel
theorem dX12_marryOf_107 : decode cX12_marryOf 107 = .ok (.if_icmp .ne 54, 3) := by decide +kernel
theorem dX12_marryOf_110 : decode cX12_marryOf 110 = .ok (.iload_n 2, 1) := by decide +kernel
theorem dX12_marryOf_111 : decode cX12_marryOf 111 = .ok (.iload 4, 2) := by decide +kernel
theorem dX12_marryOf_113 : decode cX12_marryOf 113 = .ok (.ishr, 1) := by decide +kernel
theorem dX12_marryOf_114 : decode cX12_marryOf 114 = .ok (.iconst 1, 1) := by decide +kernel
theorem dX12_marryOf_115 : decode cX12_marryOf 115 = .ok (.iand, 1) := by decide +kernel
theorem dX12_marryOf_116 : decode cX12_marryOf 116 = .ok (.iconst 1, 1) := by decide +kernel
theorem dX12_marryOf_117 : decode cX12_marryOf 117 = .ok (.if_icmp .ne 44, 3) := by decide +kernel
theorem dX12_marryOf_120 : decode cX12_marryOf 120 = .ok (.iload_n 2, 1) := by decide +kernel
theorem dX12_marryOf_121 : decode cX12_marryOf 121 = .ok (.iload 7, 2) := by decide +kernel
theorem dX12_marryOf_123 : decode cX12_marryOf 123 = .ok (.ishr, 1) := by decide +kernel
theorem dX12_marryOf_124 : decode cX12_marryOf 124 = .ok (.iconst 1, 1) := by decide +kernel
theorem dX12_marryOf_125 : decode cX12_marryOf 125 = .ok (.iand, 1) := by decide +kernel
theorem dX12_marryOf_126 : decode cX12_marryOf 126 = .ok (.iconst 1, 1) := by decide +kernel
theorem dX12_marryOf_127 : decode cX12_marryOf 127 = .ok (.if_icmp .ne 34, 3) := by decide +kernel
theorem dX12_marryOf_130 : decode cX12_marryOf 130 = .ok (.aload_n 0, 1) := by decide +kernel
theorem dX12_marryOf_131 : decode cX12_marryOf 131 = .ok (.getfield 31, 3) := by decide +kernel
theorem dX12_marryOf_134 : decode cX12_marryOf 134 = .ok (.iload 5, 2) := by decide +kernel
theorem dX12_marryOf_136 : decode cX12_marryOf 136 = .ok (.iconst 1, 1) := by decide +kernel
theorem dX12_marryOf_137 : decode cX12_marryOf 137 = .ok (.iload 7, 2) := by decide +kernel
theorem dX12_marryOf_139 : decode cX12_marryOf 139 = .ok (.ishl, 1) := by decide +kernel
theorem dX12_marryOf_140 : decode cX12_marryOf 140 = .ok (.iconst (-1), 1) := by decide +kernel
theorem dX12_marryOf_141 : decode cX12_marryOf 141 = .ok (.ixor, 1) := by decide +kernel
theorem dX12_marryOf_142 : decode cX12_marryOf 142 = .ok (.iand, 1) := by decide +kernel
theorem dX12_marryOf_143 : decode cX12_marryOf 143 = .ok (.iaload, 1) := by decide +kernel
theorem dX12_marryOf_144 : decode cX12_marryOf 144 = .ok (.bipush 100, 2) := by decide +kernel
theorem dX12_marryOf_146 : decode cX12_marryOf 146 = .ok (.aload_n 0, 1) := by decide +kernel
theorem dX12_marryOf_147 : decode cX12_marryOf 147 = .ok (.iload 4, 2) := by decide +kernel
theorem dX12_marryOf_149 : decode cX12_marryOf 149 = .ok (.iload 7, 2) := by decide +kernel
theorem dX12_marryOf_151 : decode cX12_marryOf 151 = .ok (.invokevirtual 198, 3) := by decide +kernel
theorem dX12_marryOf_154 : decode cX12_marryOf 154 = .ok (.imul, 1) := by decide +kernel
theorem dX12_marryOf_155 : decode cX12_marryOf 155 = .ok (.iadd, 1) := by decide +kernel
theorem dX12_marryOf_156 : decode cX12_marryOf 156 = .ok (.iconst 1, 1) := by decide +kernel
theorem dX12_marryOf_157 : decode cX12_marryOf 157 = .ok (.isub, 1) := by decide +kernel
theorem dX12_marryOf_158 : decode cX12_marryOf 158 = .ok (.goto 4, 3) := by decide +kernel
