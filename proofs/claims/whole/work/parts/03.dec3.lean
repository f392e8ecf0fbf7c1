theorem dX7_isAhead_116 : decode cX7_isAhead 116 = .ok (.getfield 29, 3) := by decide +kernel
theorem dX7_isAhead_119 : decode cX7_isAhead 119 = .ok (.iload_n 1, 1) := by decide +kernel
theorem dX7_isAhead_120 : decode cX7_isAhead 120 = .ok (.iaload, 1) := by decide +kernel
theorem dX7_isAhead_121 : decode cX7_isAhead 121 = .ok (.aload_n 0, 1) := by decide +kernel
theorem dX7_isAhead_122 : decode cX7_isAhead 122 = .ok (.getfield 29, 3) := by decide +kernel
theorem dX7_isAhead_125 : decode cX7_isAhead 125 = .ok (.iload_n 2, 1) := by decide +kernel
theorem dX7_isAhead_126 : decode cX7_isAhead 126 = .ok (.iaload, 1) := by decide +kernel
theorem dX7_isAhead_127 : decode cX7_isAhead 127 = .ok (.isub, 1) := by decide +kernel
theorem dX7_isAhead_128 : decode cX7_isAhead 128 = .ok (.goto 5, 3) := by decide +kernel
theorem dX7_isAhead_131 : decode cX7_isAhead 131 = .ok (.iload 4, 2) := by decide +kernel
theorem dX7_isAhead_133 : decode cX7_isAhead 133 = .ok (.istore 4, 2) := by decide +kernel
theorem dX7_isAhead_135 : decode cX7_isAhead 135 = .ok (.iload 4, 2) := by decide +kernel
theorem dX7_isAhead_137 : decode cX7_isAhead 137 = .ok (.ifCond .ne 16, 3) := by decide +kernel
theorem dX7_isAhead_140 : decode cX7_isAhead 140 = .ok (.iload_n 1, 1) := by decide +kernel
theorem dX7_isAhead_141 : decode cX7_isAhead 141 = .ok (.iload_n 2, 1) := by decide +kernel
theorem dX7_isAhead_142 : decode cX7_isAhead 142 = .ok (.if_icmp .ge 7, 3) := by decide +kernel
theorem dX7_isAhead_145 : decode cX7_isAhead 145 = .ok (.iconst 1, 1) := by decide +kernel
theorem dX7_isAhead_146 : decode cX7_isAhead 146 = .ok (.goto 17, 3) := by decide +kernel
theorem dX7_isAhead_149 : decode cX7_isAhead 149 = .ok (.iconst 0, 1) := by decide +kernel
theorem dX7_isAhead_150 : decode cX7_isAhead 150 = .ok (.goto 13, 3) := by decide +kernel
theorem dX7_isAhead_153 : decode cX7_isAhead 153 = .ok (.iload 4, 2) := by decide +kernel
theorem dX7_isAhead_155 : decode cX7_isAhead 155 = .ok (.ifCond .le 7, 3) := by decide +kernel
theorem dX7_isAhead_158 : decode cX7_isAhead 158 = .ok (.iconst 1, 1) := by decide +kernel
theorem dX7_isAhead_159 : decode cX7_isAhead 159 = .ok (.goto 4, 3) := by decide +kernel
theorem dX7_isAhead_162 : decode cX7_isAhead 162 = .ok (.iconst 0, 1) := by decide +kernel
theorem dX7_isAhead_163 : decode cX7_isAhead 163 = .ok (.ireturn, 1) := by decide +kernel
theorem dX7_isHome_0 : decode cX7_isHome 0 = .ok (.aload_n 0, 1) := by decide +kernel
theorem dX7_isHome_1 : decode cX7_isHome 1 = .ok (.getfield 50, 3) := by decide +kernel
theorem dX7_isHome_4 : decode cX7_isHome 4 = .ok (.iload_n 1, 1) := by decide +kernel
theorem dX7_isHome_5 : decode cX7_isHome 5 = .ok (.iaload, 1) := by decide +kernel
theorem dX7_isHome_6 : decode cX7_isHome 6 = .ok (.aload_n 0, 1) := by decide +kernel
theorem dX7_isHome_7 : decode cX7_isHome 7 = .ok (.getfield 35, 3) := by decide +kernel
theorem dX7_isHome_10 : decode cX7_isHome 10 = .ok (.iload_n 1, 1) := by decide +kernel
theorem dX7_isHome_11 : decode cX7_isHome 11 = .ok (.iaload, 1) := by decide +kernel
theorem dX7_isHome_12 : decode cX7_isHome 12 = .ok (.if_icmp .ne 7, 3) := by decide +kernel
theorem dX7_isHome_15 : decode cX7_isHome 15 = .ok (.iconst 1, 1) := by decide +kernel
theorem dX7_isHome_16 : decode cX7_isHome 16 = .ok (.goto 4, 3) := by decide +kernel
theorem dX7_isHome_19 : decode cX7_isHome 19 = .ok (.iconst 0, 1) := by decide +kernel
theorem dX7_isHome_20 : decode cX7_isHome 20 = .ok (.ireturn, 1) := by decide +kernel
theorem dX7_setGoing_0 : decode cX7_setGoing 0 = .ok (.iconst 0, 1) := by decide +kernel
theorem dX7_setGoing_1 : decode cX7_setGoing 1 = .ok (.istore_n 2, 1) := by decide +kernel
theorem dX7_setGoing_2 : decode cX7_setGoing 2 = .ok (.iload_n 2, 1) := by decide +kernel
theorem dX7_setGoing_3 : decode cX7_setGoing 3 = .ok (.aload_n 0, 1) := by decide +kernel
theorem dX7_setGoing_4 : decode cX7_setGoing 4 = .ok (.getfield 76, 3) := by decide +kernel
theorem dX7_setGoing_7 : decode cX7_setGoing 7 = .ok (.if_icmp .ge 156, 3) := by decide +kernel
theorem dX7_setGoing_10 : decode cX7_setGoing 10 = .ok (.aload_n 0, 1) := by decide +kernel
theorem dX7_setGoing_11 : decode cX7_setGoing 11 = .ok (.getfield 62, 3) := by decide +kernel
theorem dX7_setGoing_14 : decode cX7_setGoing 14 = .ok (.iload_n 2, 1) := by decide +kernel
theorem dX7_setGoing_15 : decode cX7_setGoing 15 = .ok (.iconst 0, 1) := by decide +kernel
theorem dX7_setGoing_16 : decode cX7_setGoing 16 = .ok (.iastore, 1) := by decide +kernel
theorem dX7_setGoing_17 : decode cX7_setGoing 17 = .ok (.aload_n 0, 1) := by decide +kernel
theorem dX7_setGoing_18 : decode cX7_setGoing 18 = .ok (.iload_n 2, 1) := by decide +kernel
theorem dX7_setGoing_19 : decode cX7_setGoing 19 = .ok (.invokevirtual 199, 3) := by decide +kernel
theorem dX7_setGoing_22 : decode cX7_setGoing 22 = .ok (.ifCond .ne 135, 3) := by decide +kernel
theorem dX7_setGoing_25 : decode cX7_setGoing 25 = .ok (.aload_n 0, 1) := by decide +kernel
theorem dX7_setGoing_26 : decode cX7_setGoing 26 = .ok (.iload_n 2, 1) := by decide +kernel
theorem dX7_setGoing_27 : decode cX7_setGoing 27 = .ok (.aload_n 0, 1) := by decide +kernel
theorem dX7_setGoing_28 : decode cX7_setGoing 28 = .ok (.getfield 50, 3) := by decide +kernel
theorem dX7_setGoing_31 : decode cX7_setGoing 31 = .ok (.iload_n 2, 1) := by decide +kernel
theorem dX7_setGoing_32 : decode cX7_setGoing 32 = .ok (.iaload, 1) := by decide +kernel
theorem dX7_setGoing_33 : decode cX7_setGoing 33 = .ok (.invokevirtual 139, 3) := by decide +kernel
theorem dX7_setGoing_36 : decode cX7_setGoing 36 = .ok (.istore_n 3, 1) := by decide +kernel
theorem dX7_setGoing_37 : decode cX7_setGoing 37 = .ok (.iconst 1, 1) := by decide +kernel
theorem dX7_setGoing_38 : decode cX7_setGoing 38 = .ok (.istore 4, 2) := by decide +kernel
theorem dX7_setGoing_40 : decode cX7_setGoing 40 = .ok (.iconst 0, 1) := by decide +kernel
theorem dX7_setGoing_41 : decode cX7_setGoing 41 = .ok (.istore 5, 2) := by decide +kernel
theorem dX7_setGoing_43 : decode cX7_setGoing 43 = .ok (.iconst 0, 1) := by decide +kernel
theorem dX7_setGoing_44 : decode cX7_setGoing 44 = .ok (.istore 6, 2) := by decide +kernel
theorem dX7_setGoing_46 : decode cX7_setGoing 46 = .ok (.iload 6, 2) := by decide +kernel
theorem dX7_setGoing_48 : decode cX7_setGoing 48 = .ok (.aload_n 0, 1) := by decide +kernel
theorem dX7_setGoing_49 : decode cX7_setGoing 49 = .ok (.getfield 76, 3) := by decide +kernel
theorem dX7_setGoing_52 : decode cX7_setGoing 52 = .ok (.if_icmp .ge 67, 3) := by decide +kernel
theorem dX7_setGoing_55 : decode cX7_setGoing 55 = .ok (.aload_n 0, 1) := by decide +kernel
theorem dX7_setGoing_56 : decode cX7_setGoing 56 = .ok (.iload 6, 2) := by decide +kernel
theorem dX7_setGoing_58 : decode cX7_setGoing 58 = .ok (.invokevirtual 199, 3) := by decide +kernel
theorem dX7_setGoing_61 : decode cX7_setGoing 61 = .ok (.ifCond .ne 52, 3) := by decide +kernel
theorem dX7_setGoing_64 : decode cX7_setGoing 64 = .ok (.aload_n 0, 1) := by decide +kernel
theorem dX7_setGoing_65 : decode cX7_setGoing 65 = .ok (.iload 6, 2) := by decide +kernel
theorem dX7_setGoing_67 : decode cX7_setGoing 67 = .ok (.aload_n 0, 1) := by decide +kernel
theorem dX7_setGoing_68 : decode cX7_setGoing 68 = .ok (.getfield 50, 3) := by decide +kernel
theorem dX7_setGoing_71 : decode cX7_setGoing 71 = .ok (.iload 6, 2) := by decide +kernel
theorem dX7_setGoing_73 : decode cX7_setGoing 73 = .ok (.iaload, 1) := by decide +kernel
theorem dX7_setGoing_74 : decode cX7_setGoing 74 = .ok (.invokevirtual 139, 3) := by decide +kernel
theorem dX7_setGoing_77 : decode cX7_setGoing 77 = .ok (.iload_n 3, 1) := by decide +kernel
theorem dX7_setGoing_78 : decode cX7_setGoing 78 = .ok (.if_icmp .ne 35, 3) := by decide +kernel
theorem dX7_setGoing_81 : decode cX7_setGoing 81 = .ok (.iinc 5 1, 3) := by decide +kernel
theorem dX7_setGoing_84 : decode cX7_setGoing 84 = .ok (.iload 4, 2) := by decide +kernel
theorem dX7_setGoing_86 : decode cX7_setGoing 86 = .ok (.ifCond .eq 24, 3) := by decide +kernel
theorem dX7_setGoing_89 : decode cX7_setGoing 89 = .ok (.iload 6, 2) := by decide +kernel
theorem dX7_setGoing_91 : decode cX7_setGoing 91 = .ok (.iload_n 2, 1) := by decide +kernel
theorem dX7_setGoing_92 : decode cX7_setGoing 92 = .ok (.if_icmp .eq 14, 3) := by decide +kernel
theorem dX7_setGoing_95 : decode cX7_setGoing 95 = .ok (.aload_n 0, 1) := by decide +kernel
theorem dX7_setGoing_96 : decode cX7_setGoing 96 = .ok (.iload_n 2, 1) := by decide +kernel
theorem dX7_setGoing_97 : decode cX7_setGoing 97 = .ok (.iload 6, 2) := by decide +kernel
theorem dX7_setGoing_99 : decode cX7_setGoing 99 = .ok (.iload_n 1, 1) := by decide +kernel
theorem dX7_setGoing_100 : decode cX7_setGoing 100 = .ok (.invokevirtual 202, 3) := by decide +kernel
theorem dX7_setGoing_103 : decode cX7_setGoing 103 = .ok (.ifCond .eq 7, 3) := by decide +kernel
theorem dX7_setGoing_106 : decode cX7_setGoing 106 = .ok (.iconst 1, 1) := by decide +kernel
theorem dX7_setGoing_107 : decode cX7_setGoing 107 = .ok (.goto 4, 3) := by decide +kernel
theorem dX7_setGoing_110 : decode cX7_setGoing 110 = .ok (.iconst 0, 1) := by decide +kernel
theorem dX7_setGoing_111 : decode cX7_setGoing 111 = .ok (.istore 4, 2) := by decide +kernel
theorem dX7_setGoing_113 : decode cX7_setGoing 113 = .ok (.iinc 6 1, 3) := by decide +kernel
theorem dX7_setGoing_116 : decode cX7_setGoing 116 = .ok (.goto (-70), 3) := by decide +kernel
theorem dX7_setGoing_119 : decode cX7_setGoing 119 = .ok (.aload_n 0, 1) := by decide +kernel
theorem dX7_setGoing_120 : decode cX7_setGoing 120 = .ok (.getfield 62, 3) := by decide +kernel
theorem dX7_setGoing_123 : decode cX7_setGoing 123 = .ok (.iload_n 2, 1) := by decide +kernel
theorem dX7_setGoing_124 : decode cX7_setGoing 124 = .ok (.iload 4, 2) := by decide +kernel
theorem dX7_setGoing_126 : decode cX7_setGoing 126 = .ok (.ifCond .eq 7, 3) := by decide +kernel
theorem dX7_setGoing_129 : decode cX7_setGoing 129 = .ok (.iconst 1, 1) := by decide +kernel
theorem dX7_setGoing_130 : decode cX7_setGoing 130 = .ok (.goto 4, 3) := by decide +kernel
theorem dX7_setGoing_133 : decode cX7_setGoing 133 = .ok (.iconst 0, 1) := by decide +kernel
theorem dX7_setGoing_134 : decode cX7_setGoing 134 = .ok (.iastore, 1) := by decide +kernel
theorem dX7_setGoing_135 : decode cX7_setGoing 135 = .ok (.aload_n 0, 1) := by decide +kernel
theorem dX7_setGoing_136 : decode cX7_setGoing 136 = .ok (.iload 5, 2) := by decide +kernel
theorem dX7_setGoing_138 : decode cX7_setGoing 138 = .ok (.aload_n 0, 1) := by decide +kernel
theorem dX7_setGoing_139 : decode cX7_setGoing 139 = .ok (.getfield 205, 3) := by decide +kernel
theorem dX7_setGoing_142 : decode cX7_setGoing 142 = .ok (.if_icmp .le 8, 3) := by decide +kernel
theorem dX7_setGoing_145 : decode cX7_setGoing 145 = .ok (.iload 5, 2) := by decide +kernel
theorem dX7_setGoing_147 : decode cX7_setGoing 147 = .ok (.goto 7, 3) := by decide +kernel
theorem dX7_setGoing_150 : decode cX7_setGoing 150 = .ok (.aload_n 0, 1) := by decide +kernel
theorem dX7_setGoing_151 : decode cX7_setGoing 151 = .ok (.getfield 205, 3) := by decide +kernel
theorem dX7_setGoing_154 : decode cX7_setGoing 154 = .ok (.putfield 205, 3) := by decide +kernel
theorem dX7_setGoing_157 : decode cX7_setGoing 157 = .ok (.iinc 2 1, 3) := by decide +kernel
theorem dX7_setGoing_160 : decode cX7_setGoing 160 = .ok (.goto (-158), 3) := by decide +kernel
theorem dX7_setGoing_163 : decode cX7_setGoing 163 = .ok (.return_, 1) := by decide +kernel
theorem dX7_goesTick_0 : decode cX7_goesTick 0 = .ok (.aload_n 0, 1) := by decide +kernel
theorem dX7_goesTick_1 : decode cX7_goesTick 1 = .ok (.dup, 1) := by decide +kernel
theorem dX7_goesTick_2 : decode cX7_goesTick 2 = .ok (.getfield 208, 3) := by decide +kernel
theorem dX7_goesTick_5 : decode cX7_goesTick 5 = .ok (.iconst 1, 1) := by decide +kernel
theorem dX7_goesTick_6 : decode cX7_goesTick 6 = .ok (.iadd, 1) := by decide +kernel
theorem dX7_goesTick_7 : decode cX7_goesTick 7 = .ok (.putfield 208, 3) := by decide +kernel
theorem dX7_goesTick_10 : decode cX7_goesTick 10 = .ok (.aload_n 0, 1) := by decide +kernel
theorem dX7_goesTick_11 : decode cX7_goesTick 11 = .ok (.iload_n 1, 1) := by decide +kernel
theorem dX7_goesTick_12 : decode cX7_goesTick 12 = .ok (.invokevirtual 211, 3) := by decide +kernel
theorem dX7_goesTick_15 : decode cX7_goesTick 15 = .ok (.iconst 0, 1) := by decide +kernel
theorem dX7_goesTick_16 : decode cX7_goesTick 16 = .ok (.istore_n 2, 1) := by decide +kernel
theorem dX7_goesTick_17 : decode cX7_goesTick 17 = .ok (.iload_n 2, 1) := by decide +kernel
theorem dX7_goesTick_18 : decode cX7_goesTick 18 = .ok (.aload_n 0, 1) := by decide +kernel
theorem dX7_goesTick_19 : decode cX7_goesTick 19 = .ok (.getfield 76, 3) := by decide +kernel
theorem dX7_goesTick_22 : decode cX7_goesTick 22 = .ok (.if_icmp .ge 70, 3) := by decide +kernel
theorem dX7_goesTick_25 : decode cX7_goesTick 25 = .ok (.aload_n 0, 1) := by decide +kernel
theorem dX7_goesTick_26 : decode cX7_goesTick 26 = .ok (.iload_n 2, 1) := by decide +kernel
theorem dX7_goesTick_27 : decode cX7_goesTick 27 = .ok (.invokevirtual 199, 3) := by decide +kernel
theorem dX7_goesTick_30 : decode cX7_goesTick 30 = .ok (.ifCond .ne 56, 3) := by decide +kernel
theorem dX7_goesTick_33 : decode cX7_goesTick 33 = .ok (.aload_n 0, 1) := by decide +kernel
theorem dX7_goesTick_34 : decode cX7_goesTick 34 = .ok (.getfield 62, 3) := by decide +kernel
theorem dX7_goesTick_37 : decode cX7_goesTick 37 = .ok (.iload_n 2, 1) := by decide +kernel
theorem dX7_goesTick_38 : decode cX7_goesTick 38 = .ok (.iaload, 1) := by decide +kernel
theorem dX7_goesTick_39 : decode cX7_goesTick 39 = .ok (.iconst 1, 1) := by decide +kernel
theorem dX7_goesTick_40 : decode cX7_goesTick 40 = .ok (.if_icmp .ne 36, 3) := by decide +kernel
theorem dX7_goesTick_43 : decode cX7_goesTick 43 = .ok (.aload_n 0, 1) := by decide +kernel
theorem dX7_goesTick_44 : decode cX7_goesTick 44 = .ok (.getfield 50, 3) := by decide +kernel
theorem dX7_goesTick_47 : decode cX7_goesTick 47 = .ok (.iload_n 2, 1) := by decide +kernel
theorem dX7_goesTick_48 : decode cX7_goesTick 48 = .ok (.dup2, 1) := by decide +kernel
theorem dX7_goesTick_49 : decode cX7_goesTick 49 = .ok (.iaload, 1) := by decide +kernel
theorem dX7_goesTick_50 : decode cX7_goesTick 50 = .ok (.iconst 1, 1) := by decide +kernel
theorem dX7_goesTick_51 : decode cX7_goesTick 51 = .ok (.iadd, 1) := by decide +kernel
theorem dX7_goesTick_52 : decode cX7_goesTick 52 = .ok (.iastore, 1) := by decide +kernel
theorem dX7_goesTick_53 : decode cX7_goesTick 53 = .ok (.aload_n 0, 1) := by decide +kernel
theorem dX7_goesTick_54 : decode cX7_goesTick 54 = .ok (.getfield 53, 3) := by decide +kernel
theorem dX7_goesTick_57 : decode cX7_goesTick 57 = .ok (.iload_n 2, 1) := by decide +kernel
theorem dX7_goesTick_58 : decode cX7_goesTick 58 = .ok (.aload_n 0, 1) := by decide +kernel
theorem dX7_goesTick_59 : decode cX7_goesTick 59 = .ok (.getfield 208, 3) := by decide +kernel
theorem dX7_goesTick_62 : decode cX7_goesTick 62 = .ok (.iastore, 1) := by decide +kernel
theorem dX7_goesTick_63 : decode cX7_goesTick 63 = .ok (.aload_n 0, 1) := by decide +kernel
theorem dX7_goesTick_64 : decode cX7_goesTick 64 = .ok (.getfield 56, 3) := by decide +kernel
theorem dX7_goesTick_67 : decode cX7_goesTick 67 = .ok (.iload_n 2, 1) := by decide +kernel
theorem dX7_goesTick_68 : decode cX7_goesTick 68 = .ok (.aload_n 0, 1) := by decide +kernel
theorem dX7_goesTick_69 : decode cX7_goesTick 69 = .ok (.getfield 208, 3) := by decide +kernel
theorem dX7_goesTick_72 : decode cX7_goesTick 72 = .ok (.iastore, 1) := by decide +kernel
theorem dX7_goesTick_73 : decode cX7_goesTick 73 = .ok (.goto 13, 3) := by decide +kernel
theorem dX7_goesTick_76 : decode cX7_goesTick 76 = .ok (.aload_n 0, 1) := by decide +kernel
theorem dX7_goesTick_77 : decode cX7_goesTick 77 = .ok (.getfield 59, 3) := by decide +kernel
theorem dX7_goesTick_80 : decode cX7_goesTick 80 = .ok (.iload_n 2, 1) := by decide +kernel
theorem dX7_goesTick_81 : decode cX7_goesTick 81 = .ok (.dup2, 1) := by decide +kernel
theorem dX7_goesTick_82 : decode cX7_goesTick 82 = .ok (.iaload, 1) := by decide +kernel
theorem dX7_goesTick_83 : decode cX7_goesTick 83 = .ok (.iconst 1, 1) := by decide +kernel
theorem dX7_goesTick_84 : decode cX7_goesTick 84 = .ok (.iadd, 1) := by decide +kernel
theorem dX7_goesTick_85 : decode cX7_goesTick 85 = .ok (.iastore, 1) := by decide +kernel
theorem dX7_goesTick_86 : decode cX7_goesTick 86 = .ok (.iinc 2 1, 3) := by decide +kernel
theorem dX7_goesTick_89 : decode cX7_goesTick 89 = .ok (.goto (-72), 3) := by decide +kernel
theorem dX7_goesTick_92 : decode cX7_goesTick 92 = .ok (.return_, 1) := by decide +kernel
theorem dX7_allHome_0 : decode cX7_allHome 0 = .ok (.iconst 1, 1) := by decide +kernel
theorem dX7_allHome_1 : decode cX7_allHome 1 = .ok (.istore_n 1, 1) := by decide +kernel
theorem dX7_allHome_2 : decode cX7_allHome 2 = .ok (.iconst 0, 1) := by decide +kernel
theorem dX7_allHome_3 : decode cX7_allHome 3 = .ok (.istore_n 2, 1) := by decide +kernel
theorem dX7_allHome_4 : decode cX7_allHome 4 = .ok (.iload_n 2, 1) := by decide +kernel
theorem dX7_allHome_5 : decode cX7_allHome 5 = .ok (.aload_n 0, 1) := by decide +kernel
theorem dX7_allHome_6 : decode cX7_allHome 6 = .ok (.getfield 76, 3) := by decide +kernel
theorem dX7_allHome_9 : decode cX7_allHome 9 = .ok (.if_icmp .ge 27, 3) := by decide +kernel
theorem dX7_allHome_12 : decode cX7_allHome 12 = .ok (.iload_n 1, 1) := by decide +kernel
theorem dX7_allHome_13 : decode cX7_allHome 13 = .ok (.ifCond .eq 15, 3) := by decide +kernel
theorem dX7_allHome_16 : decode cX7_allHome 16 = .ok (.aload_n 0, 1) := by decide +kernel
theorem dX7_allHome_17 : decode cX7_allHome 17 = .ok (.iload_n 2, 1) := by decide +kernel
theorem dX7_allHome_18 : decode cX7_allHome 18 = .ok (.invokevirtual 199, 3) := by decide +kernel
theorem dX7_allHome_21 : decode cX7_allHome 21 = .ok (.ifCond .eq 7, 3) := by decide +kernel
theorem dX7_allHome_24 : decode cX7_allHome 24 = .ok (.iconst 1, 1) := by decide +kernel
theorem dX7_allHome_25 : decode cX7_allHome 25 = .ok (.goto 4, 3) := by decide +kernel
theorem dX7_allHome_28 : decode cX7_allHome 28 = .ok (.iconst 0, 1) := by decide +kernel
theorem dX7_allHome_29 : decode cX7_allHome 29 = .ok (.istore_n 1, 1) := by decide +kernel
theorem dX7_allHome_30 : decode cX7_allHome 30 = .ok (.iinc 2 1, 3) := by decide +kernel
theorem dX7_allHome_33 : decode cX7_allHome 33 = .ok (.goto (-29), 3) := by decide +kernel
theorem dX7_allHome_36 : decode cX7_allHome 36 = .ok (.iload_n 1, 1) := by decide +kernel
theorem dX7_allHome_37 : decode cX7_allHome 37 = .ok (.ireturn, 1) := by decide +kernel
theorem dX7_runs_0 : decode cX7_runs 0 = .ok (.aload_n 0, 1) := by decide +kernel
theorem dX7_runs_1 : decode cX7_runs 1 = .ok (.invokevirtual 146, 3) := by decide +kernel
theorem dX7_runs_4 : decode cX7_runs 4 = .ok (.aload_n 0, 1) := by decide +kernel
theorem dX7_runs_5 : decode cX7_runs 5 = .ok (.iconst 0, 1) := by decide +kernel
theorem dX7_runs_6 : decode cX7_runs 6 = .ok (.putfield 208, 3) := by decide +kernel
theorem dX7_runs_9 : decode cX7_runs 9 = .ok (.aload_n 0, 1) := by decide +kernel
theorem dX7_runs_10 : decode cX7_runs 10 = .ok (.iconst 0, 1) := by decide +kernel
theorem dX7_runs_11 : decode cX7_runs 11 = .ok (.putfield 205, 3) := by decide +kernel
theorem dX7_runs_14 : decode cX7_runs 14 = .ok (.iconst 0, 1) := by decide +kernel
theorem dX7_runs_15 : decode cX7_runs 15 = .ok (.istore_n 3, 1) := by decide +kernel
theorem dX7_runs_16 : decode cX7_runs 16 = .ok (.iload_n 3, 1) := by decide +kernel
theorem dX7_runs_17 : decode cX7_runs 17 = .ok (.aload_n 0, 1) := by decide +kernel
theorem dX7_runs_18 : decode cX7_runs 18 = .ok (.getfield 76, 3) := by decide +kernel
theorem dX7_runs_21 : decode cX7_runs 21 = .ok (.if_icmp .ge 37, 3) := by decide +kernel
theorem dX7_runs_24 : decode cX7_runs 24 = .ok (.aload_n 0, 1) := by decide +kernel
theorem dX7_runs_25 : decode cX7_runs 25 = .ok (.getfield 50, 3) := by decide +kernel
theorem dX7_runs_28 : decode cX7_runs 28 = .ok (.iload_n 3, 1) := by decide +kernel
theorem dX7_runs_29 : decode cX7_runs 29 = .ok (.iconst 0, 1) := by decide +kernel
theorem dX7_runs_30 : decode cX7_runs 30 = .ok (.iastore, 1) := by decide +kernel
theorem dX7_runs_31 : decode cX7_runs 31 = .ok (.aload_n 0, 1) := by decide +kernel
theorem dX7_runs_32 : decode cX7_runs 32 = .ok (.getfield 53, 3) := by decide +kernel
theorem dX7_runs_35 : decode cX7_runs 35 = .ok (.iload_n 3, 1) := by decide +kernel
theorem dX7_runs_36 : decode cX7_runs 36 = .ok (.iconst 0, 1) := by decide +kernel
theorem dX7_runs_37 : decode cX7_runs 37 = .ok (.iastore, 1) := by decide +kernel
theorem dX7_runs_38 : decode cX7_runs 38 = .ok (.aload_n 0, 1) := by decide +kernel
theorem dX7_runs_39 : decode cX7_runs 39 = .ok (.getfield 56, 3) := by decide +kernel
theorem dX7_runs_42 : decode cX7_runs 42 = .ok (.iload_n 3, 1) := by decide +kernel
theorem dX7_runs_43 : decode cX7_runs 43 = .ok (.iconst 0, 1) := by decide +kernel
theorem dX7_runs_44 : decode cX7_runs 44 = .ok (.iastore, 1) := by decide +kernel
theorem dX7_runs_45 : decode cX7_runs 45 = .ok (.aload_n 0, 1) := by decide +kernel
theorem dX7_runs_46 : decode cX7_runs 46 = .ok (.getfield 59, 3) := by decide +kernel
theorem dX7_runs_49 : decode cX7_runs 49 = .ok (.iload_n 3, 1) := by decide +kernel
theorem dX7_runs_50 : decode cX7_runs 50 = .ok (.iconst 0, 1) := by decide +kernel
theorem dX7_runs_51 : decode cX7_runs 51 = .ok (.iastore, 1) := by decide +kernel
theorem dX7_runs_52 : decode cX7_runs 52 = .ok (.iinc 3 1, 3) := by decide +kernel
theorem dX7_runs_55 : decode cX7_runs 55 = .ok (.goto (-39), 3) := by decide +kernel
theorem dX7_runs_58 : decode cX7_runs 58 = .ok (.aload_n 0, 1) := by decide +kernel
theorem dX7_runs_59 : decode cX7_runs 59 = .ok (.getfield 208, 3) := by decide +kernel
theorem dX7_runs_62 : decode cX7_runs 62 = .ok (.iload_n 2, 1) := by decide +kernel
theorem dX7_runs_63 : decode cX7_runs 63 = .ok (.if_icmp .ge 18, 3) := by decide +kernel
theorem dX7_runs_66 : decode cX7_runs 66 = .ok (.aload_n 0, 1) := by decide +kernel
theorem dX7_runs_67 : decode cX7_runs 67 = .ok (.invokevirtual 214, 3) := by decide +kernel
theorem dX7_runs_70 : decode cX7_runs 70 = .ok (.ifCond .ne 11, 3) := by decide +kernel
theorem dX7_runs_73 : decode cX7_runs 73 = .ok (.aload_n 0, 1) := by decide +kernel
theorem dX7_runs_74 : decode cX7_runs 74 = .ok (.iload_n 1, 1) := by decide +kernel
theorem dX7_runs_75 : decode cX7_runs 75 = .ok (.invokevirtual 218, 3) := by decide +kernel
theorem dX7_runs_78 : decode cX7_runs 78 = .ok (.goto (-20), 3) := by decide +kernel
theorem dX7_runs_81 : decode cX7_runs 81 = .ok (.return_, 1) := by decide +kernel
theorem dX7_runTells_0 : decode cX7_runTells 0 = .ok (.aload_n 0, 1) := by decide +kernel
theorem dX7_runTells_1 : decode cX7_runTells 1 = .ok (.aload_n 0, 1) := by decide +kernel
theorem dX7_runTells_2 : decode cX7_runTells 2 = .ok (.getfield 17, 3) := by decide +kernel
theorem dX7_runTells_5 : decode cX7_runTells 5 = .ok (.iconst 1, 1) := by decide +kernel
theorem dX7_runTells_6 : decode cX7_runTells 6 = .ok (.iaload, 1) := by decide +kernel
theorem dX7_runTells_7 : decode cX7_runTells 7 = .ok (.sipush 9999, 3) := by decide +kernel
theorem dX7_runTells_10 : decode cX7_runTells 10 = .ok (.invokevirtual 221, 3) := by decide +kernel
theorem dX7_runTells_13 : decode cX7_runTells 13 = .ok (.iconst 0, 1) := by decide +kernel
theorem dX7_runTells_14 : decode cX7_runTells 14 = .ok (.istore_n 2, 1) := by decide +kernel
theorem dX7_runTells_15 : decode cX7_runTells 15 = .ok (.iconst 0, 1) := by decide +kernel
theorem dX7_runTells_16 : decode cX7_runTells 16 = .ok (.istore_n 3, 1) := by decide +kernel
theorem dX7_runTells_17 : decode cX7_runTells 17 = .ok (.aload_n 0, 1) := by decide +kernel
theorem dX7_runTells_18 : decode cX7_runTells 18 = .ok (.getfield 76, 3) := by decide +kernel
theorem dX7_runTells_21 : decode cX7_runTells 21 = .ok (.ifCond .ne 7, 3) := by decide +kernel
theorem dX7_runTells_24 : decode cX7_runTells 24 = .ok (.iconst (-1), 1) := by decide +kernel
theorem dX7_runTells_25 : decode cX7_runTells 25 = .ok (.goto 4, 3) := by decide +kernel
theorem dX7_runTells_28 : decode cX7_runTells 28 = .ok (.iconst 0, 1) := by decide +kernel
theorem dX7_runTells_29 : decode cX7_runTells 29 = .ok (.istore 4, 2) := by decide +kernel
theorem dX7_runTells_31 : decode cX7_runTells 31 = .ok (.iconst 0, 1) := by decide +kernel
theorem dX7_runTells_32 : decode cX7_runTells 32 = .ok (.istore 5, 2) := by decide +kernel
theorem dX7_runTells_34 : decode cX7_runTells 34 = .ok (.iload 5, 2) := by decide +kernel
theorem dX7_runTells_36 : decode cX7_runTells 36 = .ok (.aload_n 0, 1) := by decide +kernel
theorem dX7_runTells_37 : decode cX7_runTells 37 = .ok (.getfield 76, 3) := by decide +kernel
theorem dX7_runTells_40 : decode cX7_runTells 40 = .ok (.if_icmp .ge 62, 3) := by decide +kernel
theorem dX7_runTells_43 : decode cX7_runTells 43 = .ok (.iload_n 2, 1) := by decide +kernel
theorem dX7_runTells_44 : decode cX7_runTells 44 = .ok (.aload_n 0, 1) := by decide +kernel
theorem dX7_runTells_45 : decode cX7_runTells 45 = .ok (.getfield 59, 3) := by decide +kernel
theorem dX7_runTells_48 : decode cX7_runTells 48 = .ok (.iload 5, 2) := by decide +kernel
theorem dX7_runTells_50 : decode cX7_runTells 50 = .ok (.iaload, 1) := by decide +kernel
theorem dX7_runTells_51 : decode cX7_runTells 51 = .ok (.iadd, 1) := by decide +kernel
theorem dX7_runTells_52 : decode cX7_runTells 52 = .ok (.istore_n 2, 1) := by decide +kernel
theorem dX7_runTells_53 : decode cX7_runTells 53 = .ok (.aload_n 0, 1) := by decide +kernel
theorem dX7_runTells_54 : decode cX7_runTells 54 = .ok (.getfield 59, 3) := by decide +kernel
theorem dX7_runTells_57 : decode cX7_runTells 57 = .ok (.iload 5, 2) := by decide +kernel
theorem dX7_runTells_59 : decode cX7_runTells 59 = .ok (.iaload, 1) := by decide +kernel
theorem dX7_runTells_60 : decode cX7_runTells 60 = .ok (.iload_n 3, 1) := by decide +kernel
theorem dX7_runTells_61 : decode cX7_runTells 61 = .ok (.if_icmp .le 8, 3) := by decide +kernel
theorem dX7_runTells_64 : decode cX7_runTells 64 = .ok (.iload 5, 2) := by decide +kernel
theorem dX7_runTells_66 : decode cX7_runTells 66 = .ok (.goto 5, 3) := by decide +kernel
theorem dX7_runTells_69 : decode cX7_runTells 69 = .ok (.iload 4, 2) := by decide +kernel
theorem dX7_runTells_71 : decode cX7_runTells 71 = .ok (.istore 4, 2) := by decide +kernel
theorem dX7_runTells_73 : decode cX7_runTells 73 = .ok (.aload_n 0, 1) := by decide +kernel
theorem dX7_runTells_74 : decode cX7_runTells 74 = .ok (.getfield 59, 3) := by decide +kernel
theorem dX7_runTells_77 : decode cX7_runTells 77 = .ok (.iload 5, 2) := by decide +kernel
theorem dX7_runTells_79 : decode cX7_runTells 79 = .ok (.iaload, 1) := by decide +kernel
theorem dX7_runTells_80 : decode cX7_runTells 80 = .ok (.iload_n 3, 1) := by decide +kernel
theorem dX7_runTells_81 : decode cX7_runTells 81 = .ok (.if_icmp .le 13, 3) := by decide +kernel
theorem dX7_runTells_84 : decode cX7_runTells 84 = .ok (.aload_n 0, 1) := by decide +kernel
theorem dX7_runTells_85 : decode cX7_runTells 85 = .ok (.getfield 59, 3) := by decide +kernel
theorem dX7_runTells_88 : decode cX7_runTells 88 = .ok (.iload 5, 2) := by decide +kernel
theorem dX7_runTells_90 : decode cX7_runTells 90 = .ok (.iaload, 1) := by decide +kernel
theorem dX7_runTells_91 : decode cX7_runTells 91 = .ok (.goto 4, 3) := by decide +kernel
theorem dX7_runTells_94 : decode cX7_runTells 94 = .ok (.iload_n 3, 1) := by decide +kernel
theorem dX7_runTells_95 : decode cX7_runTells 95 = .ok (.istore_n 3, 1) := by decide +kernel
theorem dX7_runTells_96 : decode cX7_runTells 96 = .ok (.iinc 5 1, 3) := by decide +kernel
theorem dX7_runTells_99 : decode cX7_runTells 99 = .ok (.goto (-65), 3) := by decide +kernel
theorem dX7_runTells_102 : decode cX7_runTells 102 = .ok (.iload_n 1, 1) := by decide +kernel
theorem dX7_runTells_103 : decode cX7_runTells 103 = .ok (.ifCond .ne 10, 3) := by decide +kernel
theorem dX7_runTells_106 : decode cX7_runTells 106 = .ok (.aload_n 0, 1) := by decide +kernel
theorem dX7_runTells_107 : decode cX7_runTells 107 = .ok (.getfield 208, 3) := by decide +kernel
theorem dX7_runTells_110 : decode cX7_runTells 110 = .ok (.goto 35, 3) := by decide +kernel
theorem dX7_runTells_113 : decode cX7_runTells 113 = .ok (.iload_n 1, 1) := by decide +kernel
theorem dX7_runTells_114 : decode cX7_runTells 114 = .ok (.iconst 1, 1) := by decide +kernel
theorem dX7_runTells_115 : decode cX7_runTells 115 = .ok (.if_icmp .ne 7, 3) := by decide +kernel
theorem dX7_runTells_118 : decode cX7_runTells 118 = .ok (.iload_n 2, 1) := by decide +kernel
theorem dX7_runTells_119 : decode cX7_runTells 119 = .ok (.goto 26, 3) := by decide +kernel
theorem dX7_runTells_122 : decode cX7_runTells 122 = .ok (.iload_n 1, 1) := by decide +kernel
theorem dX7_runTells_123 : decode cX7_runTells 123 = .ok (.iconst 2, 1) := by decide +kernel
theorem dX7_runTells_124 : decode cX7_runTells 124 = .ok (.if_icmp .ne 7, 3) := by decide +kernel
theorem dX7_runTells_127 : decode cX7_runTells 127 = .ok (.iload_n 3, 1) := by decide +kernel
theorem dX7_runTells_128 : decode cX7_runTells 128 = .ok (.goto 17, 3) := by decide +kernel
theorem dX7_runTells_131 : decode cX7_runTells 131 = .ok (.iload_n 1, 1) := by decide +kernel
theorem dX7_runTells_132 : decode cX7_runTells 132 = .ok (.iconst 3, 1) := by decide +kernel
theorem dX7_runTells_133 : decode cX7_runTells 133 = .ok (.if_icmp .ne 8, 3) := by decide +kernel
theorem dX7_runTells_136 : decode cX7_runTells 136 = .ok (.iload 4, 2) := by decide +kernel
theorem dX7_runTells_138 : decode cX7_runTells 138 = .ok (.goto 7, 3) := by decide +kernel
theorem dX7_runTells_141 : decode cX7_runTells 141 = .ok (.aload_n 0, 1) := by decide +kernel
theorem dX7_runTells_142 : decode cX7_runTells 142 = .ok (.getfield 205, 3) := by decide +kernel
theorem dX7_runTells_145 : decode cX7_runTells 145 = .ok (.ireturn, 1) := by decide +kernel
theorem dX7_run_0 : decode cX7_run 0 = .ok (.iload_n 1, 1) := by decide +kernel
theorem dX7_run_1 : decode cX7_run 1 = .ok (.iconst 0, 1) := by decide +kernel
theorem dX7_run_2 : decode cX7_run 2 = .ok (.iconst 4, 1) := by decide +kernel
theorem dX7_run_3 : decode cX7_run 3 = .ok (.invokestatic 72, 3) := by decide +kernel
theorem dX7_run_6 : decode cX7_run 6 = .ok (.ifCond .eq 11, 3) := by decide +kernel
theorem dX7_run_9 : decode cX7_run 9 = .ok (.aload_n 0, 1) := by decide +kernel
theorem dX7_run_10 : decode cX7_run 10 = .ok (.iload_n 1, 1) := by decide +kernel
theorem dX7_run_11 : decode cX7_run 11 = .ok (.invokevirtual 224, 3) := by decide +kernel
theorem dX7_run_14 : decode cX7_run 14 = .ok (.goto 7, 3) := by decide +kernel
theorem dX7_run_17 : decode cX7_run 17 = .ok (.aload_n 0, 1) := by decide +kernel
theorem dX7_run_18 : decode cX7_run 18 = .ok (.invokevirtual 85, 3) := by decide +kernel
theorem dX7_run_21 : decode cX7_run 21 = .ok (.ireturn, 1) := by decide +kernel
theorem dX7_ran_0 : decode cX7_ran 0 = .ok (.aload_n 0, 1) := by decide +kernel
theorem dX7_ran_1 : decode cX7_ran 1 = .ok (.iload_n 1, 1) := by decide +kernel
theorem dX7_ran_2 : decode cX7_ran 2 = .ok (.invokevirtual 105, 3) := by decide +kernel
theorem dX7_ran_5 : decode cX7_ran 5 = .ok (.ifCond .eq 28, 3) := by decide +kernel
theorem dX7_ran_8 : decode cX7_ran 8 = .ok (.iload_n 2, 1) := by decide +kernel
theorem dX7_ran_9 : decode cX7_ran 9 = .ok (.iconst 0, 1) := by decide +kernel
theorem dX7_ran_10 : decode cX7_ran 10 = .ok (.iconst 2, 1) := by decide +kernel
theorem dX7_ran_11 : decode cX7_ran 11 = .ok (.invokestatic 72, 3) := by decide +kernel
theorem dX7_ran_14 : decode cX7_ran 14 = .ok (.ifCond .eq 19, 3) := by decide +kernel
theorem dX7_ran_17 : decode cX7_ran 17 = .ok (.iload_n 2, 1) := by decide +kernel
theorem dX7_ran_18 : decode cX7_ran 18 = .ok (.iconst 2, 1) := by decide +kernel
theorem dX7_ran_19 : decode cX7_ran 19 = .ok (.if_icmp .ne 19, 3) := by decide +kernel
theorem dX7_ran_22 : decode cX7_ran 22 = .ok (.iload_n 3, 1) := by decide +kernel
theorem dX7_ran_23 : decode cX7_ran 23 = .ok (.iconst 0, 1) := by decide +kernel
theorem dX7_ran_24 : decode cX7_ran 24 = .ok (.sipush 400, 3) := by decide +kernel
theorem dX7_ran_27 : decode cX7_ran 27 = .ok (.invokestatic 72, 3) := by decide +kernel
theorem dX7_ran_30 : decode cX7_ran 30 = .ok (.ifCond .ne 8, 3) := by decide +kernel
theorem dX7_ran_33 : decode cX7_ran 33 = .ok (.aload_n 0, 1) := by decide +kernel
theorem dX7_ran_34 : decode cX7_ran 34 = .ok (.invokevirtual 85, 3) := by decide +kernel
theorem dX7_ran_37 : decode cX7_ran 37 = .ok (.ireturn, 1) := by decide +kernel
theorem dX7_ran_38 : decode cX7_ran 38 = .ok (.aload_n 0, 1) := by decide +kernel
theorem dX7_ran_39 : decode cX7_ran 39 = .ok (.aload_n 0, 1) := by decide +kernel
theorem dX7_ran_40 : decode cX7_ran 40 = .ok (.getfield 17, 3) := by decide +kernel
theorem dX7_ran_43 : decode cX7_ran 43 = .ok (.iconst 1, 1) := by decide +kernel
theorem dX7_ran_44 : decode cX7_ran 44 = .ok (.iaload, 1) := by decide +kernel
theorem dX7_ran_45 : decode cX7_ran 45 = .ok (.iload_n 2, 1) := by decide +kernel
theorem dX7_ran_46 : decode cX7_ran 46 = .ok (.iconst 2, 1) := by decide +kernel
theorem dX7_ran_47 : decode cX7_ran 47 = .ok (.if_icmp .ne 7, 3) := by decide +kernel
theorem dX7_ran_50 : decode cX7_ran 50 = .ok (.iload_n 3, 1) := by decide +kernel
theorem dX7_ran_51 : decode cX7_ran 51 = .ok (.goto 6, 3) := by decide +kernel
theorem dX7_ran_54 : decode cX7_ran 54 = .ok (.sipush 9999, 3) := by decide +kernel
theorem dX7_ran_57 : decode cX7_ran 57 = .ok (.invokevirtual 221, 3) := by decide +kernel
theorem dX7_ran_60 : decode cX7_ran 60 = .ok (.iload_n 2, 1) := by decide +kernel
theorem dX7_ran_61 : decode cX7_ran 61 = .ok (.ifCond .ne 12, 3) := by decide +kernel
theorem dX7_ran_64 : decode cX7_ran 64 = .ok (.aload_n 0, 1) := by decide +kernel
theorem dX7_ran_65 : decode cX7_ran 65 = .ok (.getfield 56, 3) := by decide +kernel
theorem dX7_ran_68 : decode cX7_ran 68 = .ok (.iload_n 1, 1) := by decide +kernel
theorem dX7_ran_69 : decode cX7_ran 69 = .ok (.iaload, 1) := by decide +kernel
theorem dX7_ran_70 : decode cX7_ran 70 = .ok (.goto 33, 3) := by decide +kernel
theorem dX7_ran_73 : decode cX7_ran 73 = .ok (.iload_n 2, 1) := by decide +kernel
theorem dX7_ran_74 : decode cX7_ran 74 = .ok (.iconst 1, 1) := by decide +kernel
theorem dX7_ran_75 : decode cX7_ran 75 = .ok (.if_icmp .ne 12, 3) := by decide +kernel
theorem dX7_ran_78 : decode cX7_ran 78 = .ok (.aload_n 0, 1) := by decide +kernel
theorem dX7_ran_79 : decode cX7_ran 79 = .ok (.getfield 59, 3) := by decide +kernel
theorem dX7_ran_82 : decode cX7_ran 82 = .ok (.iload_n 1, 1) := by decide +kernel
theorem dX7_ran_83 : decode cX7_ran 83 = .ok (.iaload, 1) := by decide +kernel
theorem dX7_ran_84 : decode cX7_ran 84 = .ok (.goto 19, 3) := by decide +kernel
theorem dX7_ran_87 : decode cX7_ran 87 = .ok (.aload_n 0, 1) := by decide +kernel
theorem dX7_ran_88 : decode cX7_ran 88 = .ok (.getfield 41, 3) := by decide +kernel
theorem dX7_ran_91 : decode cX7_ran 91 = .ok (.bipush 9, 2) := by decide +kernel
theorem dX7_ran_93 : decode cX7_ran 93 = .ok (.iload_n 1, 1) := by decide +kernel
theorem dX7_ran_94 : decode cX7_ran 94 = .ok (.imul, 1) := by decide +kernel
theorem dX7_ran_95 : decode cX7_ran 95 = .ok (.aload_n 0, 1) := by decide +kernel
theorem dX7_ran_96 : decode cX7_ran 96 = .ok (.getfield 50, 3) := by decide +kernel
theorem dX7_ran_99 : decode cX7_ran 99 = .ok (.iload_n 1, 1) := by decide +kernel
theorem dX7_ran_100 : decode cX7_ran 100 = .ok (.iaload, 1) := by decide +kernel
theorem dX7_ran_101 : decode cX7_ran 101 = .ok (.iadd, 1) := by decide +kernel
theorem dX7_ran_102 : decode cX7_ran 102 = .ok (.iaload, 1) := by decide +kernel
theorem dX7_ran_103 : decode cX7_ran 103 = .ok (.ireturn, 1) := by decide +kernel
theorem dX7_best_0 : decode cX7_best 0 = .ok (.iload_n 1, 1) := by decide +kernel
theorem dX7_best_1 : decode cX7_best 1 = .ok (.iconst 0, 1) := by decide +kernel
theorem dX7_best_2 : decode cX7_best 2 = .ok (.iconst 1, 1) := by decide +kernel
theorem dX7_best_3 : decode cX7_best 3 = .ok (.invokestatic 72, 3) := by decide +kernel
theorem dX7_best_6 : decode cX7_best 6 = .ok (.ifCond .ne 8, 3) := by decide +kernel
theorem dX7_best_9 : decode cX7_best 9 = .ok (.aload_n 0, 1) := by decide +kernel
theorem dX7_best_10 : decode cX7_best 10 = .ok (.invokevirtual 85, 3) := by decide +kernel
theorem dX7_best_13 : decode cX7_best 13 = .ok (.ireturn, 1) := by decide +kernel
theorem dX7_best_14 : decode cX7_best 14 = .ok (.iconst 0, 1) := by decide +kernel
theorem dX7_best_15 : decode cX7_best 15 = .ok (.istore_n 2, 1) := by decide +kernel
theorem dX7_best_16 : decode cX7_best 16 = .ok (.iconst 0, 1) := by decide +kernel
theorem dX7_best_17 : decode cX7_best 17 = .ok (.istore_n 3, 1) := by decide +kernel
theorem dX7_best_18 : decode cX7_best 18 = .ok (.iconst 0, 1) := by decide +kernel
theorem dX7_best_19 : decode cX7_best 19 = .ok (.istore 4, 2) := by decide +kernel
theorem dX7_best_21 : decode cX7_best 21 = .ok (.iload 4, 2) := by decide +kernel
theorem dX7_best_23 : decode cX7_best 23 = .ok (.iconst 4, 1) := by decide +kernel
theorem dX7_best_24 : decode cX7_best 24 = .ok (.if_icmp .ge 60, 3) := by decide +kernel
theorem dX7_best_27 : decode cX7_best 27 = .ok (.aload_n 0, 1) := by decide +kernel
theorem dX7_best_28 : decode cX7_best 28 = .ok (.iload 4, 2) := by decide +kernel
theorem dX7_best_30 : decode cX7_best 30 = .ok (.sipush 9999, 3) := by decide +kernel
theorem dX7_best_33 : decode cX7_best 33 = .ok (.invokevirtual 221, 3) := by decide +kernel
theorem dX7_best_36 : decode cX7_best 36 = .ok (.iload 4, 2) := by decide +kernel
theorem dX7_best_38 : decode cX7_best 38 = .ok (.ifCond .eq 11, 3) := by decide +kernel
theorem dX7_best_41 : decode cX7_best 41 = .ok (.aload_n 0, 1) := by decide +kernel
theorem dX7_best_42 : decode cX7_best 42 = .ok (.getfield 208, 3) := by decide +kernel
theorem dX7_best_45 : decode cX7_best 45 = .ok (.iload_n 3, 1) := by decide +kernel
theorem dX7_best_46 : decode cX7_best 46 = .ok (.if_icmp .ge 8, 3) := by decide +kernel
theorem dX7_best_49 : decode cX7_best 49 = .ok (.iload 4, 2) := by decide +kernel
theorem dX7_best_51 : decode cX7_best 51 = .ok (.goto 4, 3) := by decide +kernel
theorem dX7_best_54 : decode cX7_best 54 = .ok (.iload_n 2, 1) := by decide +kernel
theorem dX7_best_55 : decode cX7_best 55 = .ok (.istore_n 2, 1) := by decide +kernel
theorem dX7_best_56 : decode cX7_best 56 = .ok (.iload 4, 2) := by decide +kernel
theorem dX7_best_58 : decode cX7_best 58 = .ok (.ifCond .eq 11, 3) := by decide +kernel
theorem dX7_best_61 : decode cX7_best 61 = .ok (.aload_n 0, 1) := by decide +kernel
theorem dX7_best_62 : decode cX7_best 62 = .ok (.getfield 208, 3) := by decide +kernel
theorem dX7_best_65 : decode cX7_best 65 = .ok (.iload_n 3, 1) := by decide +kernel
theorem dX7_best_66 : decode cX7_best 66 = .ok (.if_icmp .ge 10, 3) := by decide +kernel
theorem dX7_best_69 : decode cX7_best 69 = .ok (.aload_n 0, 1) := by decide +kernel
theorem dX7_best_70 : decode cX7_best 70 = .ok (.getfield 208, 3) := by decide +kernel
theorem dX7_best_73 : decode cX7_best 73 = .ok (.goto 4, 3) := by decide +kernel
theorem dX7_best_76 : decode cX7_best 76 = .ok (.iload_n 3, 1) := by decide +kernel
theorem dX7_best_77 : decode cX7_best 77 = .ok (.istore_n 3, 1) := by decide +kernel
theorem dX7_best_78 : decode cX7_best 78 = .ok (.iinc 4 1, 3) := by decide +kernel
theorem dX7_best_81 : decode cX7_best 81 = .ok (.goto (-60), 3) := by decide +kernel
theorem dX7_best_84 : decode cX7_best 84 = .ok (.iload_n 1, 1) := by decide +kernel
theorem dX7_best_85 : decode cX7_best 85 = .ok (.ifCond .ne 7, 3) := by decide +kernel
theorem dX7_best_88 : decode cX7_best 88 = .ok (.iload_n 2, 1) := by decide +kernel
theorem dX7_best_89 : decode cX7_best 89 = .ok (.goto 4, 3) := by decide +kernel
theorem dX7_best_92 : decode cX7_best 92 = .ok (.iload_n 3, 1) := by decide +kernel
theorem dX7_best_93 : decode cX7_best 93 = .ok (.ireturn, 1) := by decide +kernel
theorem dX7_straight_0 : decode cX7_straight 0 = .ok (.aload_n 0, 1) := by decide +kernel
theorem dX7_straight_1 : decode cX7_straight 1 = .ok (.invokevirtual 155, 3) := by decide +kernel
theorem dX7_straight_4 : decode cX7_straight 4 = .ok (.iconst 0, 1) := by decide +kernel
theorem dX7_straight_5 : decode cX7_straight 5 = .ok (.istore_n 1, 1) := by decide +kernel
theorem dX7_straight_6 : decode cX7_straight 6 = .ok (.iload_n 1, 1) := by decide +kernel
theorem dX7_straight_7 : decode cX7_straight 7 = .ok (.aload_n 0, 1) := by decide +kernel
theorem dX7_straight_8 : decode cX7_straight 8 = .ok (.getfield 76, 3) := by decide +kernel
theorem dX7_straight_11 : decode cX7_straight 11 = .ok (.if_icmp .ge 26, 3) := by decide +kernel
theorem dX7_straight_14 : decode cX7_straight 14 = .ok (.aload_n 0, 1) := by decide +kernel
theorem dX7_straight_15 : decode cX7_straight 15 = .ok (.iload_n 1, 1) := by decide +kernel
theorem dX7_straight_16 : decode cX7_straight 16 = .ok (.aload_n 0, 1) := by decide +kernel
theorem dX7_straight_17 : decode cX7_straight 17 = .ok (.getfield 20, 3) := by decide +kernel
theorem dX7_straight_20 : decode cX7_straight 20 = .ok (.iload_n 1, 1) := by decide +kernel
theorem dX7_straight_21 : decode cX7_straight 21 = .ok (.iaload, 1) := by decide +kernel
theorem dX7_straight_22 : decode cX7_straight 22 = .ok (.invokevirtual 135, 3) := by decide +kernel
theorem dX7_straight_25 : decode cX7_straight 25 = .ok (.aload_n 0, 1) := by decide +kernel
theorem dX7_straight_26 : decode cX7_straight 26 = .ok (.iload_n 1, 1) := by decide +kernel
theorem dX7_straight_27 : decode cX7_straight 27 = .ok (.iconst 1, 1) := by decide +kernel
theorem dX7_straight_28 : decode cX7_straight 28 = .ok (.invokevirtual 158, 3) := by decide +kernel
theorem dX7_straight_31 : decode cX7_straight 31 = .ok (.iinc 1 1, 3) := by decide +kernel
theorem dX7_straight_34 : decode cX7_straight 34 = .ok (.goto (-28), 3) := by decide +kernel
theorem dX7_straight_37 : decode cX7_straight 37 = .ok (.aload_n 0, 1) := by decide +kernel
theorem dX7_straight_38 : decode cX7_straight 38 = .ok (.invokevirtual 167, 3) := by decide +kernel
theorem dX7_straight_41 : decode cX7_straight 41 = .ok (.ireturn, 1) := by decide +kernel
theorem dX7_type_0 : decode cX7_type 0 = .ok (.iload_n 1, 1) := by decide +kernel
theorem dX7_type_1 : decode cX7_type 1 = .ok (.iconst 0, 1) := by decide +kernel
theorem dX7_type_2 : decode cX7_type 2 = .ok (.bipush 127, 2) := by decide +kernel
theorem dX7_type_4 : decode cX7_type 4 = .ok (.invokestatic 72, 3) := by decide +kernel
theorem dX7_type_7 : decode cX7_type 7 = .ok (.ifCond .ne 8, 3) := by decide +kernel
theorem dX7_type_10 : decode cX7_type 10 = .ok (.aload_n 0, 1) := by decide +kernel
theorem dX7_type_11 : decode cX7_type 11 = .ok (.invokevirtual 85, 3) := by decide +kernel
theorem dX7_type_14 : decode cX7_type 14 = .ok (.ireturn, 1) := by decide +kernel
theorem dX7_type_15 : decode cX7_type 15 = .ok (.aload_n 0, 1) := by decide +kernel
theorem dX7_type_16 : decode cX7_type 16 = .ok (.getfield 227, 3) := by decide +kernel
theorem dX7_type_19 : decode cX7_type 19 = .ok (.bipush 120, 2) := by decide +kernel
theorem dX7_type_21 : decode cX7_type 21 = .ok (.if_icmp .ne 8, 3) := by decide +kernel
theorem dX7_type_24 : decode cX7_type 24 = .ok (.aload_n 0, 1) := by decide +kernel
theorem dX7_type_25 : decode cX7_type 25 = .ok (.invokevirtual 98, 3) := by decide +kernel
theorem dX7_type_28 : decode cX7_type 28 = .ok (.ireturn, 1) := by decide +kernel
theorem dX7_type_29 : decode cX7_type 29 = .ok (.aload_n 0, 1) := by decide +kernel
theorem dX7_type_30 : decode cX7_type 30 = .ok (.getfield 65, 3) := by decide +kernel
theorem dX7_type_33 : decode cX7_type 33 = .ok (.aload_n 0, 1) := by decide +kernel
theorem dX7_type_34 : decode cX7_type 34 = .ok (.getfield 227, 3) := by decide +kernel
theorem dX7_type_37 : decode cX7_type 37 = .ok (.iload_n 1, 1) := by decide +kernel
theorem dX7_type_38 : decode cX7_type 38 = .ok (.iastore, 1) := by decide +kernel
theorem dX7_type_39 : decode cX7_type 39 = .ok (.aload_n 0, 1) := by decide +kernel
theorem dX7_type_40 : decode cX7_type 40 = .ok (.dup, 1) := by decide +kernel
theorem dX7_type_41 : decode cX7_type 41 = .ok (.getfield 227, 3) := by decide +kernel
theorem dX7_type_44 : decode cX7_type 44 = .ok (.iconst 1, 1) := by decide +kernel
theorem dX7_type_45 : decode cX7_type 45 = .ok (.iadd, 1) := by decide +kernel
theorem dX7_type_46 : decode cX7_type 46 = .ok (.putfield 227, 3) := by decide +kernel
theorem dX7_type_49 : decode cX7_type 49 = .ok (.aload_n 0, 1) := by decide +kernel
theorem dX7_type_50 : decode cX7_type 50 = .ok (.getfield 227, 3) := by decide +kernel
theorem dX7_type_53 : decode cX7_type 53 = .ok (.ireturn, 1) := by decide +kernel
theorem dX7_clear_0 : decode cX7_clear 0 = .ok (.aload_n 0, 1) := by decide +kernel
theorem dX7_clear_1 : decode cX7_clear 1 = .ok (.getfield 227, 3) := by decide +kernel
theorem dX7_clear_4 : decode cX7_clear 4 = .ok (.istore_n 1, 1) := by decide +kernel
theorem dX7_clear_5 : decode cX7_clear 5 = .ok (.aload_n 0, 1) := by decide +kernel
theorem dX7_clear_6 : decode cX7_clear 6 = .ok (.iconst 0, 1) := by decide +kernel
theorem dX7_clear_7 : decode cX7_clear 7 = .ok (.putfield 227, 3) := by decide +kernel
theorem dX7_clear_10 : decode cX7_clear 10 = .ok (.iload_n 1, 1) := by decide +kernel
theorem dX7_clear_11 : decode cX7_clear 11 = .ok (.ireturn, 1) := by decide +kernel
theorem dX7_here_0 : decode cX7_here 0 = .ok (.aload_n 0, 1) := by decide +kernel
theorem dX7_here_1 : decode cX7_here 1 = .ok (.getfield 230, 3) := by decide +kernel
theorem dX7_here_4 : decode cX7_here 4 = .ok (.aload_n 0, 1) := by decide +kernel
theorem dX7_here_5 : decode cX7_here 5 = .ok (.getfield 227, 3) := by decide +kernel
theorem dX7_here_8 : decode cX7_here 8 = .ok (.if_icmp .ge 15, 3) := by decide +kernel
theorem dX7_here_11 : decode cX7_here 11 = .ok (.aload_n 0, 1) := by decide +kernel
theorem dX7_here_12 : decode cX7_here 12 = .ok (.getfield 65, 3) := by decide +kernel
theorem dX7_here_15 : decode cX7_here 15 = .ok (.aload_n 0, 1) := by decide +kernel
theorem dX7_here_16 : decode cX7_here 16 = .ok (.getfield 230, 3) := by decide +kernel
theorem dX7_here_19 : decode cX7_here 19 = .ok (.iaload, 1) := by decide +kernel
theorem dX7_here_20 : decode cX7_here 20 = .ok (.goto 4, 3) := by decide +kernel
theorem dX7_here_23 : decode cX7_here 23 = .ok (.iconst (-1), 1) := by decide +kernel
theorem dX7_here_24 : decode cX7_here 24 = .ok (.ireturn, 1) := by decide +kernel
theorem dX7_skips_0 : decode cX7_skips 0 = .ok (.aload_n 0, 1) := by decide +kernel
theorem dX7_skips_1 : decode cX7_skips 1 = .ok (.invokevirtual 233, 3) := by decide +kernel
theorem dX7_skips_4 : decode cX7_skips 4 = .ok (.bipush 32, 2) := by decide +kernel
theorem dX7_skips_6 : decode cX7_skips 6 = .ok (.if_icmp .ne 16, 3) := by decide +kernel
theorem dX7_skips_9 : decode cX7_skips 9 = .ok (.aload_n 0, 1) := by decide +kernel
theorem dX7_skips_10 : decode cX7_skips 10 = .ok (.dup, 1) := by decide +kernel
theorem dX7_skips_11 : decode cX7_skips 11 = .ok (.getfield 230, 3) := by decide +kernel
theorem dX7_skips_14 : decode cX7_skips 14 = .ok (.iconst 1, 1) := by decide +kernel
theorem dX7_skips_15 : decode cX7_skips 15 = .ok (.iadd, 1) := by decide +kernel
theorem dX7_skips_16 : decode cX7_skips 16 = .ok (.putfield 230, 3) := by decide +kernel
theorem dX7_skips_19 : decode cX7_skips 19 = .ok (.goto (-19), 3) := by decide +kernel
theorem dX7_skips_22 : decode cX7_skips 22 = .ok (.aload_n 0, 1) := by decide +kernel
theorem dX7_skips_23 : decode cX7_skips 23 = .ok (.aload_n 0, 1) := by decide +kernel
theorem dX7_skips_24 : decode cX7_skips 24 = .ok (.getfield 230, 3) := by decide +kernel
theorem dX7_skips_27 : decode cX7_skips 27 = .ok (.putfield 236, 3) := by decide +kernel
theorem dX7_skips_30 : decode cX7_skips 30 = .ok (.return_, 1) := by decide +kernel
theorem dX7_number_0 : decode cX7_number 0 = .ok (.aload_n 0, 1) := by decide +kernel
theorem dX7_number_1 : decode cX7_number 1 = .ok (.invokevirtual 239, 3) := by decide +kernel
theorem dX7_number_4 : decode cX7_number 4 = .ok (.iconst 0, 1) := by decide +kernel
theorem dX7_number_5 : decode cX7_number 5 = .ok (.istore_n 2, 1) := by decide +kernel
theorem dX7_number_6 : decode cX7_number 6 = .ok (.iconst 0, 1) := by decide +kernel
theorem dX7_number_7 : decode cX7_number 7 = .ok (.istore_n 3, 1) := by decide +kernel
theorem dX7_number_8 : decode cX7_number 8 = .ok (.aload_n 0, 1) := by decide +kernel
theorem dX7_number_9 : decode cX7_number 9 = .ok (.invokevirtual 233, 3) := by decide +kernel
theorem dX7_number_12 : decode cX7_number 12 = .ok (.bipush 48, 2) := by decide +kernel
theorem dX7_number_14 : decode cX7_number 14 = .ok (.bipush 57, 2) := by decide +kernel
theorem dX7_number_16 : decode cX7_number 16 = .ok (.invokestatic 72, 3) := by decide +kernel
theorem dX7_number_19 : decode cX7_number 19 = .ok (.ifCond .eq 41, 3) := by decide +kernel
theorem dX7_number_22 : decode cX7_number 22 = .ok (.iload_n 2, 1) := by decide +kernel
theorem dX7_number_23 : decode cX7_number 23 = .ok (.iconst 2, 1) := by decide +kernel
theorem dX7_number_24 : decode cX7_number 24 = .ok (.if_icmp .ge 18, 3) := by decide +kernel
theorem dX7_number_27 : decode cX7_number 27 = .ok (.bipush 10, 2) := by decide +kernel
theorem dX7_number_29 : decode cX7_number 29 = .ok (.iload_n 3, 1) := by decide +kernel
theorem dX7_number_30 : decode cX7_number 30 = .ok (.imul, 1) := by decide +kernel
theorem dX7_number_31 : decode cX7_number 31 = .ok (.aload_n 0, 1) := by decide +kernel
theorem dX7_number_32 : decode cX7_number 32 = .ok (.invokevirtual 233, 3) := by decide +kernel
theorem dX7_number_35 : decode cX7_number 35 = .ok (.iadd, 1) := by decide +kernel
theorem dX7_number_36 : decode cX7_number 36 = .ok (.bipush 48, 2) := by decide +kernel
theorem dX7_number_38 : decode cX7_number 38 = .ok (.isub, 1) := by decide +kernel
theorem dX7_number_39 : decode cX7_number 39 = .ok (.goto 4, 3) := by decide +kernel
theorem dX7_number_42 : decode cX7_number 42 = .ok (.iload_n 3, 1) := by decide +kernel
theorem dX7_number_43 : decode cX7_number 43 = .ok (.istore_n 3, 1) := by decide +kernel
theorem dX7_number_44 : decode cX7_number 44 = .ok (.iinc 2 1, 3) := by decide +kernel
theorem dX7_number_47 : decode cX7_number 47 = .ok (.aload_n 0, 1) := by decide +kernel
theorem dX7_number_48 : decode cX7_number 48 = .ok (.dup, 1) := by decide +kernel
theorem dX7_number_49 : decode cX7_number 49 = .ok (.getfield 230, 3) := by decide +kernel
theorem dX7_number_52 : decode cX7_number 52 = .ok (.iconst 1, 1) := by decide +kernel
theorem dX7_number_53 : decode cX7_number 53 = .ok (.iadd, 1) := by decide +kernel
theorem dX7_number_54 : decode cX7_number 54 = .ok (.putfield 230, 3) := by decide +kernel
theorem dX7_number_57 : decode cX7_number 57 = .ok (.goto (-49), 3) := by decide +kernel
theorem dX7_number_60 : decode cX7_number 60 = .ok (.aload_n 0, 1) := by decide +kernel
theorem dX7_number_61 : decode cX7_number 61 = .ok (.iload_n 3, 1) := by decide +kernel
theorem dX7_number_62 : decode cX7_number 62 = .ok (.putfield 242, 3) := by decide +kernel
theorem dX7_number_65 : decode cX7_number 65 = .ok (.iload_n 2, 1) := by decide +kernel
theorem dX7_number_66 : decode cX7_number 66 = .ok (.iconst 1, 1) := by decide +kernel
theorem dX7_number_67 : decode cX7_number 67 = .ok (.iconst 2, 1) := by decide +kernel
theorem dX7_number_68 : decode cX7_number 68 = .ok (.invokestatic 72, 3) := by decide +kernel
theorem dX7_number_71 : decode cX7_number 71 = .ok (.ifCond .eq 12, 3) := by decide +kernel
theorem dX7_number_74 : decode cX7_number 74 = .ok (.iload_n 3, 1) := by decide +kernel
theorem dX7_number_75 : decode cX7_number 75 = .ok (.iload_n 1, 1) := by decide +kernel
theorem dX7_number_76 : decode cX7_number 76 = .ok (.if_icmp .gt 7, 3) := by decide +kernel
theorem dX7_number_79 : decode cX7_number 79 = .ok (.iconst 1, 1) := by decide +kernel
theorem dX7_number_80 : decode cX7_number 80 = .ok (.goto 4, 3) := by decide +kernel
theorem dX7_number_83 : decode cX7_number 83 = .ok (.iconst 0, 1) := by decide +kernel
theorem dX7_number_84 : decode cX7_number 84 = .ok (.ireturn, 1) := by decide +kernel
theorem dX7_sign_0 : decode cX7_sign 0 = .ok (.aload_n 0, 1) := by decide +kernel
theorem dX7_sign_1 : decode cX7_sign 1 = .ok (.invokevirtual 239, 3) := by decide +kernel
theorem dX7_sign_4 : decode cX7_sign 4 = .ok (.aload_n 0, 1) := by decide +kernel
theorem dX7_sign_5 : decode cX7_sign 5 = .ok (.invokevirtual 233, 3) := by decide +kernel
theorem dX7_sign_8 : decode cX7_sign 8 = .ok (.iload_n 1, 1) := by decide +kernel
theorem dX7_sign_9 : decode cX7_sign 9 = .ok (.if_icmp .eq 5, 3) := by decide +kernel
theorem dX7_sign_12 : decode cX7_sign 12 = .ok (.iconst 0, 1) := by decide +kernel
theorem dX7_sign_13 : decode cX7_sign 13 = .ok (.ireturn, 1) := by decide +kernel
theorem dX7_sign_14 : decode cX7_sign 14 = .ok (.aload_n 0, 1) := by decide +kernel
theorem dX7_sign_15 : decode cX7_sign 15 = .ok (.dup, 1) := by decide +kernel
theorem dX7_sign_16 : decode cX7_sign 16 = .ok (.getfield 230, 3) := by decide +kernel
theorem dX7_sign_19 : decode cX7_sign 19 = .ok (.iconst 1, 1) := by decide +kernel
theorem dX7_sign_20 : decode cX7_sign 20 = .ok (.iadd, 1) := by decide +kernel
theorem dX7_sign_21 : decode cX7_sign 21 = .ok (.putfield 230, 3) := by decide +kernel
theorem dX7_sign_24 : decode cX7_sign 24 = .ok (.iconst 1, 1) := by decide +kernel
theorem dX7_sign_25 : decode cX7_sign 25 = .ok (.ireturn, 1) := by decide +kernel
theorem dX7_readsParcel_0 : decode cX7_readsParcel 0 = .ok (.aload_n 0, 1) := by decide +kernel
theorem dX7_readsParcel_1 : decode cX7_readsParcel 1 = .ok (.invokevirtual 239, 3) := by decide +kernel
theorem dX7_readsParcel_4 : decode cX7_readsParcel 4 = .ok (.aload_n 0, 1) := by decide +kernel
theorem dX7_readsParcel_5 : decode cX7_readsParcel 5 = .ok (.getfield 245, 3) := by decide +kernel
theorem dX7_readsParcel_8 : decode cX7_readsParcel 8 = .ok (.bipush 16, 2) := by decide +kernel
theorem dX7_readsParcel_10 : decode cX7_readsParcel 10 = .ok (.if_icmp .eq 16, 3) := by decide +kernel
theorem dX7_readsParcel_13 : decode cX7_readsParcel 13 = .ok (.aload_n 0, 1) := by decide +kernel
theorem dX7_readsParcel_14 : decode cX7_readsParcel 14 = .ok (.aload_n 0, 1) := by decide +kernel
theorem dX7_readsParcel_15 : decode cX7_readsParcel 15 = .ok (.invokevirtual 68, 3) := by decide +kernel
theorem dX7_readsParcel_18 : decode cX7_readsParcel 18 = .ok (.iconst 1, 1) := by decide +kernel
theorem dX7_readsParcel_19 : decode cX7_readsParcel 19 = .ok (.isub, 1) := by decide +kernel
theorem dX7_readsParcel_20 : decode cX7_readsParcel 20 = .ok (.invokevirtual 248, 3) := by decide +kernel
theorem dX7_readsParcel_23 : decode cX7_readsParcel 23 = .ok (.ifCond .ne 5, 3) := by decide +kernel
theorem dX7_readsParcel_26 : decode cX7_readsParcel 26 = .ok (.iconst 0, 1) := by decide +kernel
theorem dX7_readsParcel_27 : decode cX7_readsParcel 27 = .ok (.ireturn, 1) := by decide +kernel
theorem dX7_readsParcel_28 : decode cX7_readsParcel 28 = .ok (.aload_n 0, 1) := by decide +kernel
theorem dX7_readsParcel_29 : decode cX7_readsParcel 29 = .ok (.getfield 242, 3) := by decide +kernel
theorem dX7_readsParcel_32 : decode cX7_readsParcel 32 = .ok (.istore_n 2, 1) := by decide +kernel
theorem dX7_readsParcel_33 : decode cX7_readsParcel 33 = .ok (.aload_n 0, 1) := by decide +kernel
theorem dX7_readsParcel_34 : decode cX7_readsParcel 34 = .ok (.bipush 62, 2) := by decide +kernel
theorem dX7_readsParcel_36 : decode cX7_readsParcel 36 = .ok (.invokevirtual 251, 3) := by decide +kernel
theorem dX7_readsParcel_39 : decode cX7_readsParcel 39 = .ok (.ifCond .eq 16, 3) := by decide +kernel
theorem dX7_readsParcel_42 : decode cX7_readsParcel 42 = .ok (.aload_n 0, 1) := by decide +kernel
theorem dX7_readsParcel_43 : decode cX7_readsParcel 43 = .ok (.aload_n 0, 1) := by decide +kernel
theorem dX7_readsParcel_44 : decode cX7_readsParcel 44 = .ok (.invokevirtual 68, 3) := by decide +kernel
theorem dX7_readsParcel_47 : decode cX7_readsParcel 47 = .ok (.iconst 1, 1) := by decide +kernel
theorem dX7_readsParcel_48 : decode cX7_readsParcel 48 = .ok (.isub, 1) := by decide +kernel
theorem dX7_readsParcel_49 : decode cX7_readsParcel 49 = .ok (.invokevirtual 248, 3) := by decide +kernel
theorem dX7_readsParcel_52 : decode cX7_readsParcel 52 = .ok (.ifCond .ne 5, 3) := by decide +kernel
theorem dX7_readsParcel_55 : decode cX7_readsParcel 55 = .ok (.iconst 0, 1) := by decide +kernel
theorem dX7_readsParcel_56 : decode cX7_readsParcel 56 = .ok (.ireturn, 1) := by decide +kernel
theorem dX7_readsParcel_57 : decode cX7_readsParcel 57 = .ok (.aload_n 0, 1) := by decide +kernel
theorem dX7_readsParcel_58 : decode cX7_readsParcel 58 = .ok (.getfield 242, 3) := by decide +kernel
theorem dX7_readsParcel_61 : decode cX7_readsParcel 61 = .ok (.istore_n 3, 1) := by decide +kernel
theorem dX7_readsParcel_62 : decode cX7_readsParcel 62 = .ok (.iload_n 2, 1) := by decide +kernel
theorem dX7_readsParcel_63 : decode cX7_readsParcel 63 = .ok (.istore 4, 2) := by decide +kernel
theorem dX7_readsParcel_65 : decode cX7_readsParcel 65 = .ok (.iconst 0, 1) := by decide +kernel
theorem dX7_readsParcel_66 : decode cX7_readsParcel 66 = .ok (.istore 5, 2) := by decide +kernel
theorem dX7_readsParcel_68 : decode cX7_readsParcel 68 = .ok (.aload_n 0, 1) := by decide +kernel
theorem dX7_readsParcel_69 : decode cX7_readsParcel 69 = .ok (.bipush 47, 2) := by decide +kernel
theorem dX7_readsParcel_71 : decode cX7_readsParcel 71 = .ok (.invokevirtual 251, 3) := by decide +kernel
theorem dX7_readsParcel_74 : decode cX7_readsParcel 74 = .ok (.ifCond .eq 24, 3) := by decide +kernel
theorem dX7_readsParcel_77 : decode cX7_readsParcel 77 = .ok (.aload_n 0, 1) := by decide +kernel
theorem dX7_readsParcel_78 : decode cX7_readsParcel 78 = .ok (.aload_n 0, 1) := by decide +kernel
theorem dX7_readsParcel_79 : decode cX7_readsParcel 79 = .ok (.invokevirtual 68, 3) := by decide +kernel
theorem dX7_readsParcel_82 : decode cX7_readsParcel 82 = .ok (.iconst 1, 1) := by decide +kernel
theorem dX7_readsParcel_83 : decode cX7_readsParcel 83 = .ok (.isub, 1) := by decide +kernel
theorem dX7_readsParcel_84 : decode cX7_readsParcel 84 = .ok (.invokevirtual 248, 3) := by decide +kernel
theorem dX7_readsParcel_87 : decode cX7_readsParcel 87 = .ok (.ifCond .ne 5, 3) := by decide +kernel
theorem dX7_readsParcel_90 : decode cX7_readsParcel 90 = .ok (.iconst 0, 1) := by decide +kernel
theorem dX7_readsParcel_91 : decode cX7_readsParcel 91 = .ok (.ireturn, 1) := by decide +kernel
theorem dX7_readsParcel_92 : decode cX7_readsParcel 92 = .ok (.aload_n 0, 1) := by decide +kernel
theorem dX7_readsParcel_93 : decode cX7_readsParcel 93 = .ok (.getfield 242, 3) := by decide +kernel
theorem dX7_readsParcel_96 : decode cX7_readsParcel 96 = .ok (.istore 4, 2) := by decide +kernel
theorem dX7_readsParcel_98 : decode cX7_readsParcel 98 = .ok (.aload_n 0, 1) := by decide +kernel
theorem dX7_readsParcel_99 : decode cX7_readsParcel 99 = .ok (.bipush 42, 2) := by decide +kernel
theorem dX7_readsParcel_101 : decode cX7_readsParcel 101 = .ok (.invokevirtual 251, 3) := by decide +kernel
theorem dX7_readsParcel_104 : decode cX7_readsParcel 104 = .ok (.ifCond .eq 20, 3) := by decide +kernel
theorem dX7_readsParcel_107 : decode cX7_readsParcel 107 = .ok (.aload_n 0, 1) := by decide +kernel
theorem dX7_readsParcel_108 : decode cX7_readsParcel 108 = .ok (.bipush 99, 2) := by decide +kernel
theorem dX7_readsParcel_110 : decode cX7_readsParcel 110 = .ok (.invokevirtual 248, 3) := by decide +kernel
theorem dX7_readsParcel_113 : decode cX7_readsParcel 113 = .ok (.ifCond .ne 5, 3) := by decide +kernel
theorem dX7_readsParcel_116 : decode cX7_readsParcel 116 = .ok (.iconst 0, 1) := by decide +kernel
theorem dX7_readsParcel_117 : decode cX7_readsParcel 117 = .ok (.ireturn, 1) := by decide +kernel
theorem dX7_readsParcel_118 : decode cX7_readsParcel 118 = .ok (.aload_n 0, 1) := by decide +kernel
theorem dX7_readsParcel_119 : decode cX7_readsParcel 119 = .ok (.getfield 242, 3) := by decide +kernel
theorem dX7_readsParcel_122 : decode cX7_readsParcel 122 = .ok (.istore 5, 2) := by decide +kernel
theorem dX7_readsParcel_124 : decode cX7_readsParcel 124 = .ok (.aload_n 0, 1) := by decide +kernel
theorem dX7_readsParcel_125 : decode cX7_readsParcel 125 = .ok (.bipush 59, 2) := by decide +kernel
theorem dX7_readsParcel_127 : decode cX7_readsParcel 127 = .ok (.invokevirtual 251, 3) := by decide +kernel
theorem dX7_readsParcel_130 : decode cX7_readsParcel 130 = .ok (.ifCond .ne 5, 3) := by decide +kernel
theorem dX7_readsParcel_133 : decode cX7_readsParcel 133 = .ok (.iconst 0, 1) := by decide +kernel
theorem dX7_readsParcel_134 : decode cX7_readsParcel 134 = .ok (.ireturn, 1) := by decide +kernel
theorem dX7_readsParcel_135 : decode cX7_readsParcel 135 = .ok (.aload_n 0, 1) := by decide +kernel
theorem dX7_readsParcel_136 : decode cX7_readsParcel 136 = .ok (.dup, 1) := by decide +kernel
theorem dX7_readsParcel_137 : decode cX7_readsParcel 137 = .ok (.getfield 245, 3) := by decide +kernel
theorem dX7_readsParcel_140 : decode cX7_readsParcel 140 = .ok (.iconst 1, 1) := by decide +kernel
theorem dX7_readsParcel_141 : decode cX7_readsParcel 141 = .ok (.iadd, 1) := by decide +kernel
theorem dX7_readsParcel_142 : decode cX7_readsParcel 142 = .ok (.putfield 245, 3) := by decide +kernel
theorem dX7_readsParcel_145 : decode cX7_readsParcel 145 = .ok (.iload_n 1, 1) := by decide +kernel
theorem dX7_readsParcel_146 : decode cX7_readsParcel 146 = .ok (.ifCond .eq 13, 3) := by decide +kernel
theorem dX7_readsParcel_149 : decode cX7_readsParcel 149 = .ok (.aload_n 0, 1) := by decide +kernel
theorem dX7_readsParcel_150 : decode cX7_readsParcel 150 = .ok (.iload_n 2, 1) := by decide +kernel
theorem dX7_readsParcel_151 : decode cX7_readsParcel 151 = .ok (.iload_n 3, 1) := by decide +kernel
theorem dX7_readsParcel_152 : decode cX7_readsParcel 152 = .ok (.iload 4, 2) := by decide +kernel
theorem dX7_readsParcel_154 : decode cX7_readsParcel 154 = .ok (.iload 5, 2) := by decide +kernel
theorem dX7_readsParcel_156 : decode cX7_readsParcel 156 = .ok (.invokevirtual 101, 3) := by decide +kernel
theorem dX7_readsParcel_159 : decode cX7_readsParcel 159 = .ok (.iconst 1, 1) := by decide +kernel
theorem dX7_readsParcel_160 : decode cX7_readsParcel 160 = .ok (.ireturn, 1) := by decide +kernel
theorem dX7_goesThrough_0 : decode cX7_goesThrough 0 = .ok (.aload_n 0, 1) := by decide +kernel
theorem dX7_goesThrough_1 : decode cX7_goesThrough 1 = .ok (.iconst 0, 1) := by decide +kernel
theorem dX7_goesThrough_2 : decode cX7_goesThrough 2 = .ok (.putfield 230, 3) := by decide +kernel
theorem dX7_goesThrough_5 : decode cX7_goesThrough 5 = .ok (.aload_n 0, 1) := by decide +kernel
theorem dX7_goesThrough_6 : decode cX7_goesThrough 6 = .ok (.aload_n 0, 1) := by decide +kernel
theorem dX7_goesThrough_7 : decode cX7_goesThrough 7 = .ok (.getfield 76, 3) := by decide +kernel
theorem dX7_goesThrough_10 : decode cX7_goesThrough 10 = .ok (.putfield 245, 3) := by decide +kernel
theorem dX7_goesThrough_13 : decode cX7_goesThrough 13 = .ok (.aload_n 0, 1) := by decide +kernel
theorem dX7_goesThrough_14 : decode cX7_goesThrough 14 = .ok (.getfield 76, 3) := by decide +kernel
theorem dX7_goesThrough_17 : decode cX7_goesThrough 17 = .ok (.istore_n 2, 1) := by decide +kernel
theorem dX7_goesThrough_18 : decode cX7_goesThrough 18 = .ok (.aload_n 0, 1) := by decide +kernel
theorem dX7_goesThrough_19 : decode cX7_goesThrough 19 = .ok (.invokevirtual 239, 3) := by decide +kernel
theorem dX7_goesThrough_22 : decode cX7_goesThrough 22 = .ok (.aload_n 0, 1) := by decide +kernel
theorem dX7_goesThrough_23 : decode cX7_goesThrough 23 = .ok (.getfield 230, 3) := by decide +kernel
theorem dX7_goesThrough_26 : decode cX7_goesThrough 26 = .ok (.aload_n 0, 1) := by decide +kernel
theorem dX7_goesThrough_27 : decode cX7_goesThrough 27 = .ok (.getfield 227, 3) := by decide +kernel
theorem dX7_goesThrough_30 : decode cX7_goesThrough 30 = .ok (.if_icmp .ne 11, 3) := by decide +kernel
theorem dX7_goesThrough_33 : decode cX7_goesThrough 33 = .ok (.bipush (-10), 2) := by decide +kernel
theorem dX7_goesThrough_35 : decode cX7_goesThrough 35 = .ok (.aload_n 0, 1) := by decide +kernel
theorem dX7_goesThrough_36 : decode cX7_goesThrough 36 = .ok (.getfield 227, 3) := by decide +kernel
theorem dX7_goesThrough_39 : decode cX7_goesThrough 39 = .ok (.isub, 1) := by decide +kernel
theorem dX7_goesThrough_40 : decode cX7_goesThrough 40 = .ok (.ireturn, 1) := by decide +kernel
theorem dX7_goesThrough_41 : decode cX7_goesThrough 41 = .ok (.aload_n 0, 1) := by decide +kernel
theorem dX7_goesThrough_42 : decode cX7_goesThrough 42 = .ok (.getfield 230, 3) := by decide +kernel
theorem dX7_goesThrough_45 : decode cX7_goesThrough 45 = .ok (.aload_n 0, 1) := by decide +kernel
theorem dX7_goesThrough_46 : decode cX7_goesThrough 46 = .ok (.getfield 227, 3) := by decide +kernel
theorem dX7_goesThrough_49 : decode cX7_goesThrough 49 = .ok (.if_icmp .ge 26, 3) := by decide +kernel
theorem dX7_goesThrough_52 : decode cX7_goesThrough 52 = .ok (.aload_n 0, 1) := by decide +kernel
theorem dX7_goesThrough_53 : decode cX7_goesThrough 53 = .ok (.iload_n 1, 1) := by decide +kernel
theorem dX7_goesThrough_54 : decode cX7_goesThrough 54 = .ok (.invokevirtual 254, 3) := by decide +kernel
theorem dX7_goesThrough_57 : decode cX7_goesThrough 57 = .ok (.ifCond .ne 11, 3) := by decide +kernel
theorem dX7_goesThrough_60 : decode cX7_goesThrough 60 = .ok (.bipush (-10), 2) := by decide +kernel
theorem dX7_goesThrough_62 : decode cX7_goesThrough 62 = .ok (.aload_n 0, 1) := by decide +kernel
theorem dX7_goesThrough_63 : decode cX7_goesThrough 63 = .ok (.getfield 236, 3) := by decide +kernel
theorem dX7_goesThrough_66 : decode cX7_goesThrough 66 = .ok (.isub, 1) := by decide +kernel
theorem dX7_goesThrough_67 : decode cX7_goesThrough 67 = .ok (.ireturn, 1) := by decide +kernel
theorem dX7_goesThrough_68 : decode cX7_goesThrough 68 = .ok (.aload_n 0, 1) := by decide +kernel
theorem dX7_goesThrough_69 : decode cX7_goesThrough 69 = .ok (.invokevirtual 239, 3) := by decide +kernel
theorem dX7_goesThrough_72 : decode cX7_goesThrough 72 = .ok (.goto (-31), 3) := by decide +kernel
theorem dX7_goesThrough_75 : decode cX7_goesThrough 75 = .ok (.aload_n 0, 1) := by decide +kernel
theorem dX7_goesThrough_76 : decode cX7_goesThrough 76 = .ok (.getfield 245, 3) := by decide +kernel
theorem dX7_goesThrough_79 : decode cX7_goesThrough 79 = .ok (.iload_n 2, 1) := by decide +kernel
theorem dX7_goesThrough_80 : decode cX7_goesThrough 80 = .ok (.isub, 1) := by decide +kernel
theorem dX7_goesThrough_81 : decode cX7_goesThrough 81 = .ok (.ireturn, 1) := by decide +kernel
theorem dX7_reads_0 : decode cX7_reads 0 = .ok (.aload_n 0, 1) := by decide +kernel
theorem dX7_reads_1 : decode cX7_reads 1 = .ok (.iconst 0, 1) := by decide +kernel
theorem dX7_reads_2 : decode cX7_reads 2 = .ok (.invokevirtual 258, 3) := by decide +kernel
theorem dX7_reads_5 : decode cX7_reads 5 = .ok (.istore_n 1, 1) := by decide +kernel
theorem dX7_reads_6 : decode cX7_reads 6 = .ok (.iload_n 1, 1) := by decide +kernel
theorem dX7_reads_7 : decode cX7_reads 7 = .ok (.ifCond .ge 5, 3) := by decide +kernel
theorem dX7_reads_10 : decode cX7_reads 10 = .ok (.iload_n 1, 1) := by decide +kernel
theorem dX7_reads_11 : decode cX7_reads 11 = .ok (.ireturn, 1) := by decide +kernel
theorem dX7_reads_12 : decode cX7_reads 12 = .ok (.aload_n 0, 1) := by decide +kernel
theorem dX7_reads_13 : decode cX7_reads 13 = .ok (.invokevirtual 88, 3) := by decide +kernel
theorem dX7_reads_16 : decode cX7_reads 16 = .ok (.aload_n 0, 1) := by decide +kernel
theorem dX7_reads_17 : decode cX7_reads 17 = .ok (.iconst 1, 1) := by decide +kernel
theorem dX7_reads_18 : decode cX7_reads 18 = .ok (.invokevirtual 258, 3) := by decide +kernel
theorem dX7_reads_21 : decode cX7_reads 21 = .ok (.ireturn, 1) := by decide +kernel
theorem dX7_toldBy_0 : decode cX7_toldBy 0 = .ok (.iload_n 1, 1) := by decide +kernel
theorem dX7_toldBy_1 : decode cX7_toldBy 1 = .ok (.iconst 3, 1) := by decide +kernel
theorem dX7_toldBy_2 : decode cX7_toldBy 2 = .ok (.if_icmp .ge 12, 3) := by decide +kernel
theorem dX7_toldBy_5 : decode cX7_toldBy 5 = .ok (.aload_n 0, 1) := by decide +kernel
theorem dX7_toldBy_6 : decode cX7_toldBy 6 = .ok (.getfield 7, 3) := by decide +kernel
theorem dX7_toldBy_9 : decode cX7_toldBy 9 = .ok (.iload_n 1, 1) := by decide +kernel
theorem dX7_toldBy_10 : decode cX7_toldBy 10 = .ok (.iaload, 1) := by decide +kernel
theorem dX7_toldBy_11 : decode cX7_toldBy 11 = .ok (.goto 61, 3) := by decide +kernel
theorem dX7_toldBy_14 : decode cX7_toldBy 14 = .ok (.iload_n 1, 1) := by decide +kernel
theorem dX7_toldBy_15 : decode cX7_toldBy 15 = .ok (.iconst 3, 1) := by decide +kernel
theorem dX7_toldBy_16 : decode cX7_toldBy 16 = .ok (.if_icmp .ne 10, 3) := by decide +kernel
theorem dX7_toldBy_19 : decode cX7_toldBy 19 = .ok (.aload_n 0, 1) := by decide +kernel
theorem dX7_toldBy_20 : decode cX7_toldBy 20 = .ok (.getfield 227, 3) := by decide +kernel
theorem dX7_toldBy_23 : decode cX7_toldBy 23 = .ok (.goto 49, 3) := by decide +kernel
theorem dX7_toldBy_26 : decode cX7_toldBy 26 = .ok (.iload_n 1, 1) := by decide +kernel
theorem dX7_toldBy_27 : decode cX7_toldBy 27 = .ok (.iconst 4, 1) := by decide +kernel
theorem dX7_toldBy_28 : decode cX7_toldBy 28 = .ok (.if_icmp .ne 10, 3) := by decide +kernel
theorem dX7_toldBy_31 : decode cX7_toldBy 31 = .ok (.aload_n 0, 1) := by decide +kernel
theorem dX7_toldBy_32 : decode cX7_toldBy 32 = .ok (.getfield 13, 3) := by decide +kernel
theorem dX7_toldBy_35 : decode cX7_toldBy 35 = .ok (.goto 37, 3) := by decide +kernel
theorem dX7_toldBy_38 : decode cX7_toldBy 38 = .ok (.iload_n 1, 1) := by decide +kernel
theorem dX7_toldBy_39 : decode cX7_toldBy 39 = .ok (.iconst 5, 1) := by decide +kernel
theorem dX7_toldBy_40 : decode cX7_toldBy 40 = .ok (.if_icmp .ne 10, 3) := by decide +kernel
theorem dX7_toldBy_43 : decode cX7_toldBy 43 = .ok (.aload_n 0, 1) := by decide +kernel
theorem dX7_toldBy_44 : decode cX7_toldBy 44 = .ok (.getfield 76, 3) := by decide +kernel
theorem dX7_toldBy_47 : decode cX7_toldBy 47 = .ok (.goto 25, 3) := by decide +kernel
theorem dX7_toldBy_50 : decode cX7_toldBy 50 = .ok (.iload_n 1, 1) := by decide +kernel
theorem dX7_toldBy_51 : decode cX7_toldBy 51 = .ok (.bipush 8, 2) := by decide +kernel
theorem dX7_toldBy_53 : decode cX7_toldBy 53 = .ok (.if_icmp .ne 10, 3) := by decide +kernel
theorem dX7_toldBy_56 : decode cX7_toldBy 56 = .ok (.aload_n 0, 1) := by decide +kernel
theorem dX7_toldBy_57 : decode cX7_toldBy 57 = .ok (.getfield 79, 3) := by decide +kernel
theorem dX7_toldBy_60 : decode cX7_toldBy 60 = .ok (.goto 12, 3) := by decide +kernel
theorem dX7_toldBy_63 : decode cX7_toldBy 63 = .ok (.aload_n 0, 1) := by decide +kernel
theorem dX7_toldBy_64 : decode cX7_toldBy 64 = .ok (.getfield 17, 3) := by decide +kernel
theorem dX7_toldBy_67 : decode cX7_toldBy 67 = .ok (.iload_n 1, 1) := by decide +kernel
theorem dX7_toldBy_68 : decode cX7_toldBy 68 = .ok (.bipush 6, 2) := by decide +kernel
theorem dX7_toldBy_70 : decode cX7_toldBy 70 = .ok (.isub, 1) := by decide +kernel
theorem dX7_toldBy_71 : decode cX7_toldBy 71 = .ok (.iaload, 1) := by decide +kernel
theorem dX7_toldBy_72 : decode cX7_toldBy 72 = .ok (.ireturn, 1) := by decide +kernel
theorem dX7_told_0 : decode cX7_told 0 = .ok (.iload_n 1, 1) := by decide +kernel
theorem dX7_told_1 : decode cX7_told 1 = .ok (.iconst 0, 1) := by decide +kernel
theorem dX7_told_2 : decode cX7_told 2 = .ok (.bipush 8, 2) := by decide +kernel
theorem dX7_told_4 : decode cX7_told 4 = .ok (.invokestatic 72, 3) := by decide +kernel
theorem dX7_told_7 : decode cX7_told 7 = .ok (.ifCond .eq 11, 3) := by decide +kernel
theorem dX7_told_10 : decode cX7_told 10 = .ok (.aload_n 0, 1) := by decide +kernel
theorem dX7_told_11 : decode cX7_told 11 = .ok (.iload_n 1, 1) := by decide +kernel
theorem dX7_told_12 : decode cX7_told 12 = .ok (.invokevirtual 262, 3) := by decide +kernel
theorem dX7_told_15 : decode cX7_told 15 = .ok (.goto 7, 3) := by decide +kernel
theorem dX7_told_18 : decode cX7_told 18 = .ok (.aload_n 0, 1) := by decide +kernel
theorem dX7_told_19 : decode cX7_told 19 = .ok (.invokevirtual 85, 3) := by decide +kernel
theorem dX7_told_22 : decode cX7_told 22 = .ok (.ireturn, 1) := by decide +kernel
theorem dX7_digest_0 : decode cX7_digest 0 = .ok (.ldc2_w 265, 3) := by decide +kernel
theorem dX7_digest_3 : decode cX7_digest 3 = .ok (.lstore_n 1, 1) := by decide +kernel
theorem dX7_digest_4 : decode cX7_digest 4 = .ok (.iconst 0, 1) := by decide +kernel
theorem dX7_digest_5 : decode cX7_digest 5 = .ok (.istore_n 3, 1) := by decide +kernel
theorem dX7_digest_6 : decode cX7_digest 6 = .ok (.iload_n 3, 1) := by decide +kernel
theorem dX7_digest_7 : decode cX7_digest 7 = .ok (.bipush 9, 2) := by decide +kernel
theorem dX7_digest_9 : decode cX7_digest 9 = .ok (.if_icmp .ge 22, 3) := by decide +kernel
theorem dX7_digest_12 : decode cX7_digest 12 = .ok (.ldc2_w 267, 3) := by decide +kernel
theorem dX7_digest_15 : decode cX7_digest 15 = .ok (.lload_n 1, 1) := by decide +kernel
theorem dX7_digest_16 : decode cX7_digest 16 = .ok (.lmul, 1) := by decide +kernel
theorem dX7_digest_17 : decode cX7_digest 17 = .ok (.aload_n 0, 1) := by decide +kernel
theorem dX7_digest_18 : decode cX7_digest 18 = .ok (.iload_n 3, 1) := by decide +kernel
theorem dX7_digest_19 : decode cX7_digest 19 = .ok (.invokevirtual 262, 3) := by decide +kernel
theorem dX7_digest_22 : decode cX7_digest 22 = .ok (.i2l, 1) := by decide +kernel
theorem dX7_digest_23 : decode cX7_digest 23 = .ok (.ladd, 1) := by decide +kernel
theorem dX7_digest_24 : decode cX7_digest 24 = .ok (.lstore_n 1, 1) := by decide +kernel
theorem dX7_digest_25 : decode cX7_digest 25 = .ok (.iinc 3 1, 3) := by decide +kernel
theorem dX7_digest_28 : decode cX7_digest 28 = .ok (.goto (-22), 3) := by decide +kernel
theorem dX7_digest_31 : decode cX7_digest 31 = .ok (.iconst 0, 1) := by decide +kernel
theorem dX7_digest_32 : decode cX7_digest 32 = .ok (.istore_n 3, 1) := by decide +kernel
theorem dX7_digest_33 : decode cX7_digest 33 = .ok (.iload_n 3, 1) := by decide +kernel
theorem dX7_digest_34 : decode cX7_digest 34 = .ok (.aload_n 0, 1) := by decide +kernel
theorem dX7_digest_35 : decode cX7_digest 35 = .ok (.getfield 76, 3) := by decide +kernel
theorem dX7_digest_38 : decode cX7_digest 38 = .ok (.if_icmp .ge 40, 3) := by decide +kernel
theorem dX7_digest_41 : decode cX7_digest 41 = .ok (.iconst 0, 1) := by decide +kernel
theorem dX7_digest_42 : decode cX7_digest 42 = .ok (.istore 4, 2) := by decide +kernel
theorem dX7_digest_44 : decode cX7_digest 44 = .ok (.iload 4, 2) := by decide +kernel
theorem dX7_digest_46 : decode cX7_digest 46 = .ok (.bipush 6, 2) := by decide +kernel
theorem dX7_digest_48 : decode cX7_digest 48 = .ok (.if_icmp .ge 24, 3) := by decide +kernel
theorem dX7_digest_51 : decode cX7_digest 51 = .ok (.ldc2_w 267, 3) := by decide +kernel
theorem dX7_digest_54 : decode cX7_digest 54 = .ok (.lload_n 1, 1) := by decide +kernel
theorem dX7_digest_55 : decode cX7_digest 55 = .ok (.lmul, 1) := by decide +kernel
theorem dX7_digest_56 : decode cX7_digest 56 = .ok (.aload_n 0, 1) := by decide +kernel
theorem dX7_digest_57 : decode cX7_digest 57 = .ok (.iload_n 3, 1) := by decide +kernel
theorem dX7_digest_58 : decode cX7_digest 58 = .ok (.iload 4, 2) := by decide +kernel
theorem dX7_digest_60 : decode cX7_digest 60 = .ok (.invokevirtual 152, 3) := by decide +kernel
theorem dX7_digest_63 : decode cX7_digest 63 = .ok (.i2l, 1) := by decide +kernel
theorem dX7_digest_64 : decode cX7_digest 64 = .ok (.ladd, 1) := by decide +kernel
theorem dX7_digest_65 : decode cX7_digest 65 = .ok (.lstore_n 1, 1) := by decide +kernel
theorem dX7_digest_66 : decode cX7_digest 66 = .ok (.iinc 4 1, 3) := by decide +kernel
theorem dX7_digest_69 : decode cX7_digest 69 = .ok (.goto (-25), 3) := by decide +kernel
theorem dX7_digest_72 : decode cX7_digest 72 = .ok (.iinc 3 1, 3) := by decide +kernel
theorem dX7_digest_75 : decode cX7_digest 75 = .ok (.goto (-42), 3) := by decide +kernel
theorem dX7_digest_78 : decode cX7_digest 78 = .ok (.ldc2_w 267, 3) := by decide +kernel
theorem dX7_digest_81 : decode cX7_digest 81 = .ok (.lload_n 1, 1) := by decide +kernel
theorem dX7_digest_82 : decode cX7_digest 82 = .ok (.lmul, 1) := by decide +kernel
theorem dX7_digest_83 : decode cX7_digest 83 = .ok (.aload_n 0, 1) := by decide +kernel
theorem dX7_digest_84 : decode cX7_digest 84 = .ok (.getfield 179, 3) := by decide +kernel
theorem dX7_digest_87 : decode cX7_digest 87 = .ok (.i2l, 1) := by decide +kernel
theorem dX7_digest_88 : decode cX7_digest 88 = .ok (.ladd, 1) := by decide +kernel
theorem dX7_digest_89 : decode cX7_digest 89 = .ok (.lstore_n 1, 1) := by decide +kernel
theorem dX7_digest_90 : decode cX7_digest 90 = .ok (.ldc2_w 267, 3) := by decide +kernel
theorem dX7_digest_93 : decode cX7_digest 93 = .ok (.lload_n 1, 1) := by decide +kernel
theorem dX7_digest_94 : decode cX7_digest 94 = .ok (.lmul, 1) := by decide +kernel
theorem dX7_digest_95 : decode cX7_digest 95 = .ok (.aload_n 0, 1) := by decide +kernel
theorem dX7_digest_96 : decode cX7_digest 96 = .ok (.getfield 47, 3) := by decide +kernel
theorem dX7_digest_99 : decode cX7_digest 99 = .ok (.i2l, 1) := by decide +kernel
theorem dX7_digest_100 : decode cX7_digest 100 = .ok (.ladd, 1) := by decide +kernel
theorem dX7_digest_101 : decode cX7_digest 101 = .ok (.lstore_n 1, 1) := by decide +kernel
theorem dX7_digest_102 : decode cX7_digest 102 = .ok (.iconst 0, 1) := by decide +kernel
theorem dX7_digest_103 : decode cX7_digest 103 = .ok (.istore_n 3, 1) := by decide +kernel
theorem dX7_digest_104 : decode cX7_digest 104 = .ok (.iload_n 3, 1) := by decide +kernel
theorem dX7_digest_105 : decode cX7_digest 105 = .ok (.iconst 3, 1) := by decide +kernel
theorem dX7_digest_106 : decode cX7_digest 106 = .ok (.if_icmp .ge 22, 3) := by decide +kernel
theorem dX7_digest_109 : decode cX7_digest 109 = .ok (.ldc2_w 267, 3) := by decide +kernel
theorem dX7_digest_112 : decode cX7_digest 112 = .ok (.lload_n 1, 1) := by decide +kernel
theorem dX7_digest_113 : decode cX7_digest 113 = .ok (.lmul, 1) := by decide +kernel
theorem dX7_digest_114 : decode cX7_digest 114 = .ok (.aload_n 0, 1) := by decide +kernel
theorem dX7_digest_115 : decode cX7_digest 115 = .ok (.iload_n 3, 1) := by decide +kernel
theorem dX7_digest_116 : decode cX7_digest 116 = .ok (.invokevirtual 176, 3) := by decide +kernel
theorem dX7_digest_119 : decode cX7_digest 119 = .ok (.i2l, 1) := by decide +kernel
theorem dX7_digest_120 : decode cX7_digest 120 = .ok (.ladd, 1) := by decide +kernel
theorem dX7_digest_121 : decode cX7_digest 121 = .ok (.lstore_n 1, 1) := by decide +kernel
theorem dX7_digest_122 : decode cX7_digest 122 = .ok (.iinc 3 1, 3) := by decide +kernel
theorem dX7_digest_125 : decode cX7_digest 125 = .ok (.goto (-21), 3) := by decide +kernel
theorem dX7_digest_128 : decode cX7_digest 128 = .ok (.iconst 0, 1) := by decide +kernel
theorem dX7_digest_129 : decode cX7_digest 129 = .ok (.istore_n 3, 1) := by decide +kernel
theorem dX7_digest_130 : decode cX7_digest 130 = .ok (.iload_n 3, 1) := by decide +kernel
theorem dX7_digest_131 : decode cX7_digest 131 = .ok (.iconst 3, 1) := by decide +kernel
theorem dX7_digest_132 : decode cX7_digest 132 = .ok (.if_icmp .ge 22, 3) := by decide +kernel
theorem dX7_digest_135 : decode cX7_digest 135 = .ok (.ldc2_w 267, 3) := by decide +kernel
theorem dX7_digest_138 : decode cX7_digest 138 = .ok (.lload_n 1, 1) := by decide +kernel
theorem dX7_digest_139 : decode cX7_digest 139 = .ok (.lmul, 1) := by decide +kernel
theorem dX7_digest_140 : decode cX7_digest 140 = .ok (.aload_n 0, 1) := by decide +kernel
theorem dX7_digest_141 : decode cX7_digest 141 = .ok (.iload_n 3, 1) := by decide +kernel
theorem dX7_digest_142 : decode cX7_digest 142 = .ok (.invokevirtual 224, 3) := by decide +kernel
theorem dX7_digest_145 : decode cX7_digest 145 = .ok (.i2l, 1) := by decide +kernel
theorem dX7_digest_146 : decode cX7_digest 146 = .ok (.ladd, 1) := by decide +kernel
theorem dX7_digest_147 : decode cX7_digest 147 = .ok (.lstore_n 1, 1) := by decide +kernel
theorem dX7_digest_148 : decode cX7_digest 148 = .ok (.iinc 3 1, 3) := by decide +kernel
theorem dX7_digest_151 : decode cX7_digest 151 = .ok (.goto (-21), 3) := by decide +kernel
theorem dX7_digest_154 : decode cX7_digest 154 = .ok (.lload_n 1, 1) := by decide +kernel
theorem dX7_digest_155 : decode cX7_digest 155 = .ok (.lreturn, 1) := by decide +kernel
theorem dJ9_max_7cf53_0 : decode cJ9_max_7cf53 0 = .ok (.iload_n 0, 1) := by decide +kernel
theorem dJ9_max_7cf53_1 : decode cJ9_max_7cf53 1 = .ok (.iload_n 1, 1) := by decide +kernel
theorem dJ9_max_7cf53_2 : decode cJ9_max_7cf53 2 = .ok (.if_icmp .lt 7, 3) := by decide +kernel
theorem dJ9_max_7cf53_5 : decode cJ9_max_7cf53 5 = .ok (.iload_n 0, 1) := by decide +kernel
theorem dJ9_max_7cf53_6 : decode cJ9_max_7cf53 6 = .ok (.goto 4, 3) := by decide +kernel
theorem dJ9_max_7cf53_9 : decode cJ9_max_7cf53 9 = .ok (.iload_n 1, 1) := by decide +kernel
theorem dJ9_max_7cf53_10 : decode cJ9_max_7cf53 10 = .ok (.ireturn, 1) := by decide +kernel
theorem dJ9_min_7cf53_0 : decode cJ9_min_7cf53 0 = .ok (.iload_n 0, 1) := by decide +kernel
theorem dJ9_min_7cf53_1 : decode cJ9_min_7cf53 1 = .ok (.iload_n 1, 1) := by decide +kernel
theorem dJ9_min_7cf53_2 : decode cJ9_min_7cf53 2 = .ok (.if_icmp .gt 7, 3) := by decide +kernel
theorem dJ9_min_7cf53_5 : decode cJ9_min_7cf53 5 = .ok (.iload_n 0, 1) := by decide +kernel
theorem dJ9_min_7cf53_6 : decode cJ9_min_7cf53 6 = .ok (.goto 4, 3) := by decide +kernel
theorem dJ9_min_7cf53_9 : decode cJ9_min_7cf53 9 = .ok (.iload_n 1, 1) := by decide +kernel
theorem dJ9_min_7cf53_10 : decode cJ9_min_7cf53 10 = .ok (.ireturn, 1) := by decide +kernel
theorem dJ7_fill_53178_0 : decode cJ7_fill_53178 0 = .ok (.iconst 0, 1) := by decide +kernel
theorem dJ7_fill_53178_1 : decode cJ7_fill_53178 1 = .ok (.istore_n 2, 1) := by decide +kernel
theorem dJ7_fill_53178_2 : decode cJ7_fill_53178 2 = .ok (.aload_n 0, 1) := by decide +kernel
theorem dJ7_fill_53178_3 : decode cJ7_fill_53178 3 = .ok (.arraylength, 1) := by decide +kernel
theorem dJ7_fill_53178_4 : decode cJ7_fill_53178 4 = .ok (.istore_n 3, 1) := by decide +kernel
theorem dJ7_fill_53178_5 : decode cJ7_fill_53178 5 = .ok (.iload_n 2, 1) := by decide +kernel
theorem dJ7_fill_53178_6 : decode cJ7_fill_53178 6 = .ok (.iload_n 3, 1) := by decide +kernel
theorem dJ7_fill_53178_7 : decode cJ7_fill_53178 7 = .ok (.if_icmp .ge 13, 3) := by decide +kernel
theorem dJ7_fill_53178_10 : decode cJ7_fill_53178 10 = .ok (.aload_n 0, 1) := by decide +kernel
theorem dJ7_fill_53178_11 : decode cJ7_fill_53178 11 = .ok (.iload_n 2, 1) := by decide +kernel
theorem dJ7_fill_53178_12 : decode cJ7_fill_53178 12 = .ok (.iload_n 1, 1) := by decide +kernel
theorem dJ7_fill_53178_13 : decode cJ7_fill_53178 13 = .ok (.iastore, 1) := by decide +kernel
theorem dJ7_fill_53178_14 : decode cJ7_fill_53178 14 = .ok (.iinc 2 1, 3) := by decide +kernel
theorem dJ7_fill_53178_17 : decode cJ7_fill_53178 17 = .ok (.goto (-12), 3) := by decide +kernel
theorem dJ7_fill_53178_20 : decode cJ7_fill_53178 20 = .ok (.return_, 1) := by decide +kernel
theorem dL_law_0 : decode cL_law 0 = .ok (.new 7, 3) := by decide +kernel
theorem dL_law_3 : decode cL_law 3 = .ok (.dup, 1) := by decide +kernel
theorem dL_law_4 : decode cL_law 4 = .ok (.invokespecial 9, 3) := by decide +kernel
theorem dL_law_7 : decode cL_law 7 = .ok (.astore_n 1, 1) := by decide +kernel
theorem dL_law_8 : decode cL_law 8 = .ok (.new 10, 3) := by decide +kernel
theorem dL_law_11 : decode cL_law 11 = .ok (.dup, 1) := by decide +kernel
theorem dL_law_12 : decode cL_law 12 = .ok (.invokespecial 12, 3) := by decide +kernel
theorem dL_law_15 : decode cL_law 15 = .ok (.astore_n 2, 1) := by decide +kernel
theorem dL_law_16 : decode cL_law 16 = .ok (.iconst 0, 1) := by decide +kernel
theorem dL_law_17 : decode cL_law 17 = .ok (.istore_n 3, 1) := by decide +kernel
theorem dL_law_18 : decode cL_law 18 = .ok (.iload_n 3, 1) := by decide +kernel
theorem dL_law_19 : decode cL_law 19 = .ok (.aload_n 0, 1) := by decide +kernel
theorem dL_law_20 : decode cL_law 20 = .ok (.arraylength, 1) := by decide +kernel
theorem dL_law_21 : decode cL_law 21 = .ok (.iconst 5, 1) := by decide +kernel
theorem dL_law_22 : decode cL_law 22 = .ok (.isub, 1) := by decide +kernel
theorem dL_law_23 : decode cL_law 23 = .ok (.if_icmp .gt 740, 3) := by decide +kernel
theorem dL_law_26 : decode cL_law 26 = .ok (.aload_n 0, 1) := by decide +kernel
theorem dL_law_27 : decode cL_law 27 = .ok (.iload_n 3, 1) := by decide +kernel
theorem dL_law_28 : decode cL_law 28 = .ok (.iaload, 1) := by decide +kernel
theorem dL_law_29 : decode cL_law 29 = .ok (.bipush 31, 2) := by decide +kernel
theorem dL_law_31 : decode cL_law 31 = .ok (.iand, 1) := by decide +kernel
theorem dL_law_32 : decode cL_law 32 = .ok (.tableswitch 725 0 23 #[112, 135, 188, 231, 264, 277, 310, 343, 376, 409, 432, 475, 498, 511, 524, 547, 590, 613, 626, 649, 662, 675, 688, 711], 112) := by decide +kernel
theorem dL_law_144 : decode cL_law 144 = .ok (.aload_n 1, 1) := by decide +kernel
theorem dL_law_145 : decode cL_law 145 = .ok (.aload_n 0, 1) := by decide +kernel
theorem dL_law_146 : decode cL_law 146 = .ok (.iload_n 3, 1) := by decide +kernel
theorem dL_law_147 : decode cL_law 147 = .ok (.iconst 1, 1) := by decide +kernel
theorem dL_law_148 : decode cL_law 148 = .ok (.iadd, 1) := by decide +kernel
theorem dL_law_149 : decode cL_law 149 = .ok (.iaload, 1) := by decide +kernel
theorem dL_law_150 : decode cL_law 150 = .ok (.invokevirtual 13, 3) := by decide +kernel
theorem dL_law_153 : decode cL_law 153 = .ok (.aload_n 2, 1) := by decide +kernel
theorem dL_law_154 : decode cL_law 154 = .ok (.aload_n 0, 1) := by decide +kernel
theorem dL_law_155 : decode cL_law 155 = .ok (.iload_n 3, 1) := by decide +kernel
theorem dL_law_156 : decode cL_law 156 = .ok (.iconst 1, 1) := by decide +kernel
theorem dL_law_157 : decode cL_law 157 = .ok (.iadd, 1) := by decide +kernel
theorem dL_law_158 : decode cL_law 158 = .ok (.iaload, 1) := by decide +kernel
theorem dL_law_159 : decode cL_law 159 = .ok (.invokevirtual 17, 3) := by decide +kernel
theorem dL_law_162 : decode cL_law 162 = .ok (.if_icmp .eq 595, 3) := by decide +kernel
theorem dL_law_165 : decode cL_law 165 = .ok (.iconst 0, 1) := by decide +kernel
theorem dL_law_166 : decode cL_law 166 = .ok (.ireturn, 1) := by decide +kernel
theorem dL_law_167 : decode cL_law 167 = .ok (.aload_n 1, 1) := by decide +kernel
theorem dL_law_168 : decode cL_law 168 = .ok (.aload_n 0, 1) := by decide +kernel
theorem dL_law_169 : decode cL_law 169 = .ok (.iload_n 3, 1) := by decide +kernel
theorem dL_law_170 : decode cL_law 170 = .ok (.iconst 1, 1) := by decide +kernel
theorem dL_law_171 : decode cL_law 171 = .ok (.iadd, 1) := by decide +kernel
theorem dL_law_172 : decode cL_law 172 = .ok (.iaload, 1) := by decide +kernel
theorem dL_law_173 : decode cL_law 173 = .ok (.aload_n 0, 1) := by decide +kernel
theorem dL_law_174 : decode cL_law 174 = .ok (.iload_n 3, 1) := by decide +kernel
theorem dL_law_175 : decode cL_law 175 = .ok (.iconst 2, 1) := by decide +kernel
theorem dL_law_176 : decode cL_law 176 = .ok (.iadd, 1) := by decide +kernel
theorem dL_law_177 : decode cL_law 177 = .ok (.iaload, 1) := by decide +kernel
theorem dL_law_178 : decode cL_law 178 = .ok (.aload_n 0, 1) := by decide +kernel
theorem dL_law_179 : decode cL_law 179 = .ok (.iload_n 3, 1) := by decide +kernel
theorem dL_law_180 : decode cL_law 180 = .ok (.iconst 3, 1) := by decide +kernel
theorem dL_law_181 : decode cL_law 181 = .ok (.iadd, 1) := by decide +kernel
theorem dL_law_182 : decode cL_law 182 = .ok (.iaload, 1) := by decide +kernel
theorem dL_law_183 : decode cL_law 183 = .ok (.aload_n 0, 1) := by decide +kernel
theorem dL_law_184 : decode cL_law 184 = .ok (.iload_n 3, 1) := by decide +kernel
theorem dL_law_185 : decode cL_law 185 = .ok (.iconst 4, 1) := by decide +kernel
theorem dL_law_186 : decode cL_law 186 = .ok (.iadd, 1) := by decide +kernel
theorem dL_law_187 : decode cL_law 187 = .ok (.iaload, 1) := by decide +kernel
theorem dL_law_188 : decode cL_law 188 = .ok (.invokevirtual 18, 3) := by decide +kernel
theorem dL_law_191 : decode cL_law 191 = .ok (.aload_n 2, 1) := by decide +kernel
theorem dL_law_192 : decode cL_law 192 = .ok (.aload_n 0, 1) := by decide +kernel
theorem dL_law_193 : decode cL_law 193 = .ok (.iload_n 3, 1) := by decide +kernel
theorem dL_law_194 : decode cL_law 194 = .ok (.iconst 1, 1) := by decide +kernel
theorem dL_law_195 : decode cL_law 195 = .ok (.iadd, 1) := by decide +kernel
theorem dL_law_196 : decode cL_law 196 = .ok (.iaload, 1) := by decide +kernel
theorem dL_law_197 : decode cL_law 197 = .ok (.aload_n 0, 1) := by decide +kernel
theorem dL_law_198 : decode cL_law 198 = .ok (.iload_n 3, 1) := by decide +kernel
theorem dL_law_199 : decode cL_law 199 = .ok (.iconst 2, 1) := by decide +kernel
theorem dL_law_200 : decode cL_law 200 = .ok (.iadd, 1) := by decide +kernel
theorem dL_law_201 : decode cL_law 201 = .ok (.iaload, 1) := by decide +kernel
theorem dL_law_202 : decode cL_law 202 = .ok (.aload_n 0, 1) := by decide +kernel
theorem dL_law_203 : decode cL_law 203 = .ok (.iload_n 3, 1) := by decide +kernel
theorem dL_law_204 : decode cL_law 204 = .ok (.iconst 3, 1) := by decide +kernel
theorem dL_law_205 : decode cL_law 205 = .ok (.iadd, 1) := by decide +kernel
theorem dL_law_206 : decode cL_law 206 = .ok (.iaload, 1) := by decide +kernel
theorem dL_law_207 : decode cL_law 207 = .ok (.aload_n 0, 1) := by decide +kernel
theorem dL_law_208 : decode cL_law 208 = .ok (.iload_n 3, 1) := by decide +kernel
theorem dL_law_209 : decode cL_law 209 = .ok (.iconst 4, 1) := by decide +kernel
theorem dL_law_210 : decode cL_law 210 = .ok (.iadd, 1) := by decide +kernel
theorem dL_law_211 : decode cL_law 211 = .ok (.iaload, 1) := by decide +kernel
theorem dL_law_212 : decode cL_law 212 = .ok (.invokevirtual 22, 3) := by decide +kernel
theorem dL_law_215 : decode cL_law 215 = .ok (.if_icmp .eq 542, 3) := by decide +kernel
theorem dL_law_218 : decode cL_law 218 = .ok (.iconst 0, 1) := by decide +kernel
theorem dL_law_219 : decode cL_law 219 = .ok (.ireturn, 1) := by decide +kernel
theorem dL_law_220 : decode cL_law 220 = .ok (.aload_n 1, 1) := by decide +kernel
theorem dL_law_221 : decode cL_law 221 = .ok (.aload_n 0, 1) := by decide +kernel
theorem dL_law_222 : decode cL_law 222 = .ok (.iload_n 3, 1) := by decide +kernel
theorem dL_law_223 : decode cL_law 223 = .ok (.iconst 1, 1) := by decide +kernel
theorem dL_law_224 : decode cL_law 224 = .ok (.iadd, 1) := by decide +kernel
theorem dL_law_225 : decode cL_law 225 = .ok (.iaload, 1) := by decide +kernel
theorem dL_law_226 : decode cL_law 226 = .ok (.aload_n 0, 1) := by decide +kernel
theorem dL_law_227 : decode cL_law 227 = .ok (.iload_n 3, 1) := by decide +kernel
theorem dL_law_228 : decode cL_law 228 = .ok (.iconst 2, 1) := by decide +kernel
theorem dL_law_229 : decode cL_law 229 = .ok (.iadd, 1) := by decide +kernel
theorem dL_law_230 : decode cL_law 230 = .ok (.iaload, 1) := by decide +kernel
theorem dL_law_231 : decode cL_law 231 = .ok (.aload_n 0, 1) := by decide +kernel
theorem dL_law_232 : decode cL_law 232 = .ok (.iload_n 3, 1) := by decide +kernel
theorem dL_law_233 : decode cL_law 233 = .ok (.iconst 3, 1) := by decide +kernel
theorem dL_law_234 : decode cL_law 234 = .ok (.iadd, 1) := by decide +kernel
theorem dL_law_235 : decode cL_law 235 = .ok (.iaload, 1) := by decide +kernel
theorem dL_law_236 : decode cL_law 236 = .ok (.invokevirtual 23, 3) := by decide +kernel
theorem dL_law_239 : decode cL_law 239 = .ok (.aload_n 2, 1) := by decide +kernel
theorem dL_law_240 : decode cL_law 240 = .ok (.aload_n 0, 1) := by decide +kernel
theorem dL_law_241 : decode cL_law 241 = .ok (.iload_n 3, 1) := by decide +kernel
theorem dL_law_242 : decode cL_law 242 = .ok (.iconst 1, 1) := by decide +kernel
theorem dL_law_243 : decode cL_law 243 = .ok (.iadd, 1) := by decide +kernel
theorem dL_law_244 : decode cL_law 244 = .ok (.iaload, 1) := by decide +kernel
theorem dL_law_245 : decode cL_law 245 = .ok (.aload_n 0, 1) := by decide +kernel
theorem dL_law_246 : decode cL_law 246 = .ok (.iload_n 3, 1) := by decide +kernel
theorem dL_law_247 : decode cL_law 247 = .ok (.iconst 2, 1) := by decide +kernel
theorem dL_law_248 : decode cL_law 248 = .ok (.iadd, 1) := by decide +kernel
theorem dL_law_249 : decode cL_law 249 = .ok (.iaload, 1) := by decide +kernel
theorem dL_law_250 : decode cL_law 250 = .ok (.aload_n 0, 1) := by decide +kernel
theorem dL_law_251 : decode cL_law 251 = .ok (.iload_n 3, 1) := by decide +kernel
theorem dL_law_252 : decode cL_law 252 = .ok (.iconst 3, 1) := by decide +kernel
theorem dL_law_253 : decode cL_law 253 = .ok (.iadd, 1) := by decide +kernel
theorem dL_law_254 : decode cL_law 254 = .ok (.iaload, 1) := by decide +kernel
theorem dL_law_255 : decode cL_law 255 = .ok (.invokevirtual 27, 3) := by decide +kernel
theorem dL_law_258 : decode cL_law 258 = .ok (.if_icmp .eq 499, 3) := by decide +kernel
theorem dL_law_261 : decode cL_law 261 = .ok (.iconst 0, 1) := by decide +kernel
theorem dL_law_262 : decode cL_law 262 = .ok (.ireturn, 1) := by decide +kernel
theorem dL_law_263 : decode cL_law 263 = .ok (.aload_n 1, 1) := by decide +kernel
theorem dL_law_264 : decode cL_law 264 = .ok (.aload_n 0, 1) := by decide +kernel
theorem dL_law_265 : decode cL_law 265 = .ok (.iload_n 3, 1) := by decide +kernel
theorem dL_law_266 : decode cL_law 266 = .ok (.iconst 1, 1) := by decide +kernel
theorem dL_law_267 : decode cL_law 267 = .ok (.iadd, 1) := by decide +kernel
theorem dL_law_268 : decode cL_law 268 = .ok (.iaload, 1) := by decide +kernel
theorem dL_law_269 : decode cL_law 269 = .ok (.aload_n 0, 1) := by decide +kernel
theorem dL_law_270 : decode cL_law 270 = .ok (.iload_n 3, 1) := by decide +kernel
theorem dL_law_271 : decode cL_law 271 = .ok (.iconst 2, 1) := by decide +kernel
theorem dL_law_272 : decode cL_law 272 = .ok (.iadd, 1) := by decide +kernel
theorem dL_law_273 : decode cL_law 273 = .ok (.iaload, 1) := by decide +kernel
theorem dL_law_274 : decode cL_law 274 = .ok (.invokevirtual 28, 3) := by decide +kernel
theorem dL_law_277 : decode cL_law 277 = .ok (.aload_n 2, 1) := by decide +kernel
theorem dL_law_278 : decode cL_law 278 = .ok (.aload_n 0, 1) := by decide +kernel
theorem dL_law_279 : decode cL_law 279 = .ok (.iload_n 3, 1) := by decide +kernel
theorem dL_law_280 : decode cL_law 280 = .ok (.iconst 1, 1) := by decide +kernel
theorem dL_law_281 : decode cL_law 281 = .ok (.iadd, 1) := by decide +kernel
theorem dL_law_282 : decode cL_law 282 = .ok (.iaload, 1) := by decide +kernel
theorem dL_law_283 : decode cL_law 283 = .ok (.aload_n 0, 1) := by decide +kernel
theorem dL_law_284 : decode cL_law 284 = .ok (.iload_n 3, 1) := by decide +kernel
theorem dL_law_285 : decode cL_law 285 = .ok (.iconst 2, 1) := by decide +kernel
theorem dL_law_286 : decode cL_law 286 = .ok (.iadd, 1) := by decide +kernel
theorem dL_law_287 : decode cL_law 287 = .ok (.iaload, 1) := by decide +kernel
theorem dL_law_288 : decode cL_law 288 = .ok (.invokevirtual 32, 3) := by decide +kernel
theorem dL_law_291 : decode cL_law 291 = .ok (.if_icmp .eq 466, 3) := by decide +kernel
theorem dL_law_294 : decode cL_law 294 = .ok (.iconst 0, 1) := by decide +kernel
theorem dL_law_295 : decode cL_law 295 = .ok (.ireturn, 1) := by decide +kernel
theorem dL_law_296 : decode cL_law 296 = .ok (.aload_n 1, 1) := by decide +kernel
theorem dL_law_297 : decode cL_law 297 = .ok (.invokevirtual 33, 3) := by decide +kernel
theorem dL_law_300 : decode cL_law 300 = .ok (.aload_n 2, 1) := by decide +kernel
theorem dL_law_301 : decode cL_law 301 = .ok (.invokevirtual 37, 3) := by decide +kernel
theorem dL_law_304 : decode cL_law 304 = .ok (.if_icmp .eq 453, 3) := by decide +kernel
theorem dL_law_307 : decode cL_law 307 = .ok (.iconst 0, 1) := by decide +kernel
theorem dL_law_308 : decode cL_law 308 = .ok (.ireturn, 1) := by decide +kernel
theorem dL_law_309 : decode cL_law 309 = .ok (.aload_n 1, 1) := by decide +kernel
theorem dL_law_310 : decode cL_law 310 = .ok (.aload_n 0, 1) := by decide +kernel
theorem dL_law_311 : decode cL_law 311 = .ok (.iload_n 3, 1) := by decide +kernel
theorem dL_law_312 : decode cL_law 312 = .ok (.iconst 1, 1) := by decide +kernel
theorem dL_law_313 : decode cL_law 313 = .ok (.iadd, 1) := by decide +kernel
theorem dL_law_314 : decode cL_law 314 = .ok (.iaload, 1) := by decide +kernel
theorem dL_law_315 : decode cL_law 315 = .ok (.aload_n 0, 1) := by decide +kernel
theorem dL_law_316 : decode cL_law 316 = .ok (.iload_n 3, 1) := by decide +kernel
theorem dL_law_317 : decode cL_law 317 = .ok (.iconst 2, 1) := by decide +kernel
theorem dL_law_318 : decode cL_law 318 = .ok (.iadd, 1) := by decide +kernel
theorem dL_law_319 : decode cL_law 319 = .ok (.iaload, 1) := by decide +kernel
theorem dL_law_320 : decode cL_law 320 = .ok (.invokevirtual 38, 3) := by decide +kernel
theorem dL_law_323 : decode cL_law 323 = .ok (.aload_n 2, 1) := by decide +kernel
theorem dL_law_324 : decode cL_law 324 = .ok (.aload_n 0, 1) := by decide +kernel
theorem dL_law_325 : decode cL_law 325 = .ok (.iload_n 3, 1) := by decide +kernel
theorem dL_law_326 : decode cL_law 326 = .ok (.iconst 1, 1) := by decide +kernel
theorem dL_law_327 : decode cL_law 327 = .ok (.iadd, 1) := by decide +kernel
theorem dL_law_328 : decode cL_law 328 = .ok (.iaload, 1) := by decide +kernel
theorem dL_law_329 : decode cL_law 329 = .ok (.aload_n 0, 1) := by decide +kernel
theorem dL_law_330 : decode cL_law 330 = .ok (.iload_n 3, 1) := by decide +kernel
theorem dL_law_331 : decode cL_law 331 = .ok (.iconst 2, 1) := by decide +kernel
theorem dL_law_332 : decode cL_law 332 = .ok (.iadd, 1) := by decide +kernel
theorem dL_law_333 : decode cL_law 333 = .ok (.iaload, 1) := by decide +kernel
theorem dL_law_334 : decode cL_law 334 = .ok (.invokevirtual 41, 3) := by decide +kernel
theorem dL_law_337 : decode cL_law 337 = .ok (.if_icmp .eq 420, 3) := by decide +kernel
theorem dL_law_340 : decode cL_law 340 = .ok (.iconst 0, 1) := by decide +kernel
theorem dL_law_341 : decode cL_law 341 = .ok (.ireturn, 1) := by decide +kernel
theorem dL_law_342 : decode cL_law 342 = .ok (.aload_n 1, 1) := by decide +kernel
theorem dL_law_343 : decode cL_law 343 = .ok (.aload_n 0, 1) := by decide +kernel
theorem dL_law_344 : decode cL_law 344 = .ok (.iload_n 3, 1) := by decide +kernel
theorem dL_law_345 : decode cL_law 345 = .ok (.iconst 1, 1) := by decide +kernel
theorem dL_law_346 : decode cL_law 346 = .ok (.iadd, 1) := by decide +kernel
theorem dL_law_347 : decode cL_law 347 = .ok (.iaload, 1) := by decide +kernel
theorem dL_law_348 : decode cL_law 348 = .ok (.aload_n 0, 1) := by decide +kernel
theorem dL_law_349 : decode cL_law 349 = .ok (.iload_n 3, 1) := by decide +kernel
theorem dL_law_350 : decode cL_law 350 = .ok (.iconst 2, 1) := by decide +kernel
theorem dL_law_351 : decode cL_law 351 = .ok (.iadd, 1) := by decide +kernel
theorem dL_law_352 : decode cL_law 352 = .ok (.iaload, 1) := by decide +kernel
theorem dL_law_353 : decode cL_law 353 = .ok (.invokevirtual 42, 3) := by decide +kernel
theorem dL_law_356 : decode cL_law 356 = .ok (.aload_n 2, 1) := by decide +kernel
theorem dL_law_357 : decode cL_law 357 = .ok (.aload_n 0, 1) := by decide +kernel
theorem dL_law_358 : decode cL_law 358 = .ok (.iload_n 3, 1) := by decide +kernel
theorem dL_law_359 : decode cL_law 359 = .ok (.iconst 1, 1) := by decide +kernel
theorem dL_law_360 : decode cL_law 360 = .ok (.iadd, 1) := by decide +kernel
theorem dL_law_361 : decode cL_law 361 = .ok (.iaload, 1) := by decide +kernel
theorem dL_law_362 : decode cL_law 362 = .ok (.aload_n 0, 1) := by decide +kernel
theorem dL_law_363 : decode cL_law 363 = .ok (.iload_n 3, 1) := by decide +kernel
theorem dL_law_364 : decode cL_law 364 = .ok (.iconst 2, 1) := by decide +kernel
theorem dL_law_365 : decode cL_law 365 = .ok (.iadd, 1) := by decide +kernel
theorem dL_law_366 : decode cL_law 366 = .ok (.iaload, 1) := by decide +kernel
theorem dL_law_367 : decode cL_law 367 = .ok (.invokevirtual 45, 3) := by decide +kernel
theorem dL_law_370 : decode cL_law 370 = .ok (.if_icmp .eq 387, 3) := by decide +kernel
theorem dL_law_373 : decode cL_law 373 = .ok (.iconst 0, 1) := by decide +kernel
theorem dL_law_374 : decode cL_law 374 = .ok (.ireturn, 1) := by decide +kernel
theorem dL_law_375 : decode cL_law 375 = .ok (.aload_n 1, 1) := by decide +kernel
theorem dL_law_376 : decode cL_law 376 = .ok (.aload_n 0, 1) := by decide +kernel
theorem dL_law_377 : decode cL_law 377 = .ok (.iload_n 3, 1) := by decide +kernel
theorem dL_law_378 : decode cL_law 378 = .ok (.iconst 1, 1) := by decide +kernel
theorem dL_law_379 : decode cL_law 379 = .ok (.iadd, 1) := by decide +kernel
theorem dL_law_380 : decode cL_law 380 = .ok (.iaload, 1) := by decide +kernel
theorem dL_law_381 : decode cL_law 381 = .ok (.aload_n 0, 1) := by decide +kernel
theorem dL_law_382 : decode cL_law 382 = .ok (.iload_n 3, 1) := by decide +kernel
theorem dL_law_383 : decode cL_law 383 = .ok (.iconst 2, 1) := by decide +kernel
theorem dL_law_384 : decode cL_law 384 = .ok (.iadd, 1) := by decide +kernel
theorem dL_law_385 : decode cL_law 385 = .ok (.iaload, 1) := by decide +kernel
theorem dL_law_386 : decode cL_law 386 = .ok (.invokevirtual 46, 3) := by decide +kernel
theorem dL_law_389 : decode cL_law 389 = .ok (.aload_n 2, 1) := by decide +kernel
theorem dL_law_390 : decode cL_law 390 = .ok (.aload_n 0, 1) := by decide +kernel
theorem dL_law_391 : decode cL_law 391 = .ok (.iload_n 3, 1) := by decide +kernel
theorem dL_law_392 : decode cL_law 392 = .ok (.iconst 1, 1) := by decide +kernel
theorem dL_law_393 : decode cL_law 393 = .ok (.iadd, 1) := by decide +kernel
theorem dL_law_394 : decode cL_law 394 = .ok (.iaload, 1) := by decide +kernel
theorem dL_law_395 : decode cL_law 395 = .ok (.aload_n 0, 1) := by decide +kernel
theorem dL_law_396 : decode cL_law 396 = .ok (.iload_n 3, 1) := by decide +kernel
theorem dL_law_397 : decode cL_law 397 = .ok (.iconst 2, 1) := by decide +kernel
theorem dL_law_398 : decode cL_law 398 = .ok (.iadd, 1) := by decide +kernel
theorem dL_law_399 : decode cL_law 399 = .ok (.iaload, 1) := by decide +kernel
theorem dL_law_400 : decode cL_law 400 = .ok (.invokevirtual 49, 3) := by decide +kernel
theorem dL_law_403 : decode cL_law 403 = .ok (.if_icmp .eq 354, 3) := by decide +kernel
theorem dL_law_406 : decode cL_law 406 = .ok (.iconst 0, 1) := by decide +kernel
theorem dL_law_407 : decode cL_law 407 = .ok (.ireturn, 1) := by decide +kernel
theorem dL_law_408 : decode cL_law 408 = .ok (.aload_n 1, 1) := by decide +kernel
theorem dL_law_409 : decode cL_law 409 = .ok (.aload_n 0, 1) := by decide +kernel
theorem dL_law_410 : decode cL_law 410 = .ok (.iload_n 3, 1) := by decide +kernel
theorem dL_law_411 : decode cL_law 411 = .ok (.iconst 1, 1) := by decide +kernel
theorem dL_law_412 : decode cL_law 412 = .ok (.iadd, 1) := by decide +kernel
theorem dL_law_413 : decode cL_law 413 = .ok (.iaload, 1) := by decide +kernel
theorem dL_law_414 : decode cL_law 414 = .ok (.aload_n 0, 1) := by decide +kernel
theorem dL_law_415 : decode cL_law 415 = .ok (.iload_n 3, 1) := by decide +kernel
theorem dL_law_416 : decode cL_law 416 = .ok (.iconst 2, 1) := by decide +kernel
theorem dL_law_417 : decode cL_law 417 = .ok (.iadd, 1) := by decide +kernel
theorem dL_law_418 : decode cL_law 418 = .ok (.iaload, 1) := by decide +kernel
theorem dL_law_419 : decode cL_law 419 = .ok (.invokevirtual 50, 3) := by decide +kernel
theorem dL_law_422 : decode cL_law 422 = .ok (.aload_n 2, 1) := by decide +kernel
theorem dL_law_423 : decode cL_law 423 = .ok (.aload_n 0, 1) := by decide +kernel
theorem dL_law_424 : decode cL_law 424 = .ok (.iload_n 3, 1) := by decide +kernel
theorem dL_law_425 : decode cL_law 425 = .ok (.iconst 1, 1) := by decide +kernel
theorem dL_law_426 : decode cL_law 426 = .ok (.iadd, 1) := by decide +kernel
theorem dL_law_427 : decode cL_law 427 = .ok (.iaload, 1) := by decide +kernel
theorem dL_law_428 : decode cL_law 428 = .ok (.aload_n 0, 1) := by decide +kernel
theorem dL_law_429 : decode cL_law 429 = .ok (.iload_n 3, 1) := by decide +kernel
theorem dL_law_430 : decode cL_law 430 = .ok (.iconst 2, 1) := by decide +kernel
theorem dL_law_431 : decode cL_law 431 = .ok (.iadd, 1) := by decide +kernel
theorem dL_law_432 : decode cL_law 432 = .ok (.iaload, 1) := by decide +kernel
theorem dL_law_433 : decode cL_law 433 = .ok (.invokevirtual 53, 3) := by decide +kernel
theorem dL_law_436 : decode cL_law 436 = .ok (.if_icmp .eq 321, 3) := by decide +kernel
theorem dL_law_439 : decode cL_law 439 = .ok (.iconst 0, 1) := by decide +kernel
theorem dL_law_440 : decode cL_law 440 = .ok (.ireturn, 1) := by decide +kernel
theorem dL_law_441 : decode cL_law 441 = .ok (.aload_n 1, 1) := by decide +kernel
theorem dL_law_442 : decode cL_law 442 = .ok (.aload_n 0, 1) := by decide +kernel
theorem dL_law_443 : decode cL_law 443 = .ok (.iload_n 3, 1) := by decide +kernel
theorem dL_law_444 : decode cL_law 444 = .ok (.iconst 1, 1) := by decide +kernel
theorem dL_law_445 : decode cL_law 445 = .ok (.iadd, 1) := by decide +kernel
theorem dL_law_446 : decode cL_law 446 = .ok (.iaload, 1) := by decide +kernel
theorem dL_law_447 : decode cL_law 447 = .ok (.invokevirtual 54, 3) := by decide +kernel
theorem dL_law_450 : decode cL_law 450 = .ok (.aload_n 2, 1) := by decide +kernel
theorem dL_law_451 : decode cL_law 451 = .ok (.aload_n 0, 1) := by decide +kernel
theorem dL_law_452 : decode cL_law 452 = .ok (.iload_n 3, 1) := by decide +kernel
theorem dL_law_453 : decode cL_law 453 = .ok (.iconst 1, 1) := by decide +kernel
theorem dL_law_454 : decode cL_law 454 = .ok (.iadd, 1) := by decide +kernel
theorem dL_law_455 : decode cL_law 455 = .ok (.iaload, 1) := by decide +kernel
theorem dL_law_456 : decode cL_law 456 = .ok (.invokevirtual 57, 3) := by decide +kernel
theorem dL_law_459 : decode cL_law 459 = .ok (.if_icmp .eq 298, 3) := by decide +kernel
theorem dL_law_462 : decode cL_law 462 = .ok (.iconst 0, 1) := by decide +kernel
theorem dL_law_463 : decode cL_law 463 = .ok (.ireturn, 1) := by decide +kernel
theorem dL_law_464 : decode cL_law 464 = .ok (.aload_n 1, 1) := by decide +kernel
theorem dL_law_465 : decode cL_law 465 = .ok (.aload_n 0, 1) := by decide +kernel
theorem dL_law_466 : decode cL_law 466 = .ok (.iload_n 3, 1) := by decide +kernel
theorem dL_law_467 : decode cL_law 467 = .ok (.iconst 1, 1) := by decide +kernel
theorem dL_law_468 : decode cL_law 468 = .ok (.iadd, 1) := by decide +kernel
theorem dL_law_469 : decode cL_law 469 = .ok (.iaload, 1) := by decide +kernel
theorem dL_law_470 : decode cL_law 470 = .ok (.aload_n 0, 1) := by decide +kernel
theorem dL_law_471 : decode cL_law 471 = .ok (.iload_n 3, 1) := by decide +kernel
theorem dL_law_472 : decode cL_law 472 = .ok (.iconst 2, 1) := by decide +kernel
theorem dL_law_473 : decode cL_law 473 = .ok (.iadd, 1) := by decide +kernel
theorem dL_law_474 : decode cL_law 474 = .ok (.iaload, 1) := by decide +kernel
theorem dL_law_475 : decode cL_law 475 = .ok (.aload_n 0, 1) := by decide +kernel
theorem dL_law_476 : decode cL_law 476 = .ok (.iload_n 3, 1) := by decide +kernel
theorem dL_law_477 : decode cL_law 477 = .ok (.iconst 3, 1) := by decide +kernel
theorem dL_law_478 : decode cL_law 478 = .ok (.iadd, 1) := by decide +kernel
theorem dL_law_479 : decode cL_law 479 = .ok (.iaload, 1) := by decide +kernel
theorem dL_law_480 : decode cL_law 480 = .ok (.invokevirtual 58, 3) := by decide +kernel
theorem dL_law_483 : decode cL_law 483 = .ok (.aload_n 2, 1) := by decide +kernel
theorem dL_law_484 : decode cL_law 484 = .ok (.aload_n 0, 1) := by decide +kernel
theorem dL_law_485 : decode cL_law 485 = .ok (.iload_n 3, 1) := by decide +kernel
theorem dL_law_486 : decode cL_law 486 = .ok (.iconst 1, 1) := by decide +kernel
theorem dL_law_487 : decode cL_law 487 = .ok (.iadd, 1) := by decide +kernel
theorem dL_law_488 : decode cL_law 488 = .ok (.iaload, 1) := by decide +kernel
theorem dL_law_489 : decode cL_law 489 = .ok (.aload_n 0, 1) := by decide +kernel
theorem dL_law_490 : decode cL_law 490 = .ok (.iload_n 3, 1) := by decide +kernel
theorem dL_law_491 : decode cL_law 491 = .ok (.iconst 2, 1) := by decide +kernel
theorem dL_law_492 : decode cL_law 492 = .ok (.iadd, 1) := by decide +kernel
theorem dL_law_493 : decode cL_law 493 = .ok (.iaload, 1) := by decide +kernel
theorem dL_law_494 : decode cL_law 494 = .ok (.aload_n 0, 1) := by decide +kernel
theorem dL_law_495 : decode cL_law 495 = .ok (.iload_n 3, 1) := by decide +kernel
theorem dL_law_496 : decode cL_law 496 = .ok (.iconst 3, 1) := by decide +kernel
theorem dL_law_497 : decode cL_law 497 = .ok (.iadd, 1) := by decide +kernel
theorem dL_law_498 : decode cL_law 498 = .ok (.iaload, 1) := by decide +kernel
theorem dL_law_499 : decode cL_law 499 = .ok (.invokevirtual 61, 3) := by decide +kernel
theorem dL_law_502 : decode cL_law 502 = .ok (.if_icmp .eq 255, 3) := by decide +kernel
theorem dL_law_505 : decode cL_law 505 = .ok (.iconst 0, 1) := by decide +kernel
theorem dL_law_506 : decode cL_law 506 = .ok (.ireturn, 1) := by decide +kernel
theorem dL_law_507 : decode cL_law 507 = .ok (.aload_n 1, 1) := by decide +kernel
theorem dL_law_508 : decode cL_law 508 = .ok (.aload_n 0, 1) := by decide +kernel
theorem dL_law_509 : decode cL_law 509 = .ok (.iload_n 3, 1) := by decide +kernel
theorem dL_law_510 : decode cL_law 510 = .ok (.iconst 1, 1) := by decide +kernel
theorem dL_law_511 : decode cL_law 511 = .ok (.iadd, 1) := by decide +kernel
theorem dL_law_512 : decode cL_law 512 = .ok (.iaload, 1) := by decide +kernel
theorem dL_law_513 : decode cL_law 513 = .ok (.invokevirtual 62, 3) := by decide +kernel
theorem dL_law_516 : decode cL_law 516 = .ok (.aload_n 2, 1) := by decide +kernel
theorem dL_law_517 : decode cL_law 517 = .ok (.aload_n 0, 1) := by decide +kernel
theorem dL_law_518 : decode cL_law 518 = .ok (.iload_n 3, 1) := by decide +kernel
theorem dL_law_519 : decode cL_law 519 = .ok (.iconst 1, 1) := by decide +kernel
theorem dL_law_520 : decode cL_law 520 = .ok (.iadd, 1) := by decide +kernel
theorem dL_law_521 : decode cL_law 521 = .ok (.iaload, 1) := by decide +kernel
theorem dL_law_522 : decode cL_law 522 = .ok (.invokevirtual 65, 3) := by decide +kernel
theorem dL_law_525 : decode cL_law 525 = .ok (.if_icmp .eq 232, 3) := by decide +kernel
theorem dL_law_528 : decode cL_law 528 = .ok (.iconst 0, 1) := by decide +kernel
theorem dL_law_529 : decode cL_law 529 = .ok (.ireturn, 1) := by decide +kernel
theorem dL_law_530 : decode cL_law 530 = .ok (.aload_n 1, 1) := by decide +kernel
theorem dL_law_531 : decode cL_law 531 = .ok (.invokevirtual 66, 3) := by decide +kernel
theorem dL_law_534 : decode cL_law 534 = .ok (.aload_n 2, 1) := by decide +kernel
theorem dL_law_535 : decode cL_law 535 = .ok (.invokevirtual 69, 3) := by decide +kernel
theorem dL_law_538 : decode cL_law 538 = .ok (.if_icmp .eq 219, 3) := by decide +kernel
theorem dL_law_541 : decode cL_law 541 = .ok (.iconst 0, 1) := by decide +kernel
theorem dL_law_542 : decode cL_law 542 = .ok (.ireturn, 1) := by decide +kernel
theorem dL_law_543 : decode cL_law 543 = .ok (.aload_n 1, 1) := by decide +kernel
theorem dL_law_544 : decode cL_law 544 = .ok (.invokevirtual 70, 3) := by decide +kernel
theorem dL_law_547 : decode cL_law 547 = .ok (.aload_n 2, 1) := by decide +kernel
theorem dL_law_548 : decode cL_law 548 = .ok (.invokevirtual 73, 3) := by decide +kernel
theorem dL_law_551 : decode cL_law 551 = .ok (.if_icmp .eq 206, 3) := by decide +kernel
theorem dL_law_554 : decode cL_law 554 = .ok (.iconst 0, 1) := by decide +kernel
theorem dL_law_555 : decode cL_law 555 = .ok (.ireturn, 1) := by decide +kernel
theorem dL_law_556 : decode cL_law 556 = .ok (.aload_n 1, 1) := by decide +kernel
theorem dL_law_557 : decode cL_law 557 = .ok (.aload_n 0, 1) := by decide +kernel
theorem dL_law_558 : decode cL_law 558 = .ok (.iload_n 3, 1) := by decide +kernel
theorem dL_law_559 : decode cL_law 559 = .ok (.iconst 1, 1) := by decide +kernel
theorem dL_law_560 : decode cL_law 560 = .ok (.iadd, 1) := by decide +kernel
theorem dL_law_561 : decode cL_law 561 = .ok (.iaload, 1) := by decide +kernel
theorem dL_law_562 : decode cL_law 562 = .ok (.invokevirtual 74, 3) := by decide +kernel
theorem dL_law_565 : decode cL_law 565 = .ok (.aload_n 2, 1) := by decide +kernel
theorem dL_law_566 : decode cL_law 566 = .ok (.aload_n 0, 1) := by decide +kernel
theorem dL_law_567 : decode cL_law 567 = .ok (.iload_n 3, 1) := by decide +kernel
theorem dL_law_568 : decode cL_law 568 = .ok (.iconst 1, 1) := by decide +kernel
theorem dL_law_569 : decode cL_law 569 = .ok (.iadd, 1) := by decide +kernel
theorem dL_law_570 : decode cL_law 570 = .ok (.iaload, 1) := by decide +kernel
theorem dL_law_571 : decode cL_law 571 = .ok (.invokevirtual 77, 3) := by decide +kernel
theorem dL_law_574 : decode cL_law 574 = .ok (.if_icmp .eq 183, 3) := by decide +kernel
theorem dL_law_577 : decode cL_law 577 = .ok (.iconst 0, 1) := by decide +kernel
theorem dL_law_578 : decode cL_law 578 = .ok (.ireturn, 1) := by decide +kernel
theorem dL_law_579 : decode cL_law 579 = .ok (.aload_n 1, 1) := by decide +kernel
theorem dL_law_580 : decode cL_law 580 = .ok (.aload_n 0, 1) := by decide +kernel
theorem dL_law_581 : decode cL_law 581 = .ok (.iload_n 3, 1) := by decide +kernel
theorem dL_law_582 : decode cL_law 582 = .ok (.iconst 1, 1) := by decide +kernel
theorem dL_law_583 : decode cL_law 583 = .ok (.iadd, 1) := by decide +kernel
theorem dL_law_584 : decode cL_law 584 = .ok (.iaload, 1) := by decide +kernel
theorem dL_law_585 : decode cL_law 585 = .ok (.aload_n 0, 1) := by decide +kernel
theorem dL_law_586 : decode cL_law 586 = .ok (.iload_n 3, 1) := by decide +kernel
theorem dL_law_587 : decode cL_law 587 = .ok (.iconst 2, 1) := by decide +kernel
theorem dL_law_588 : decode cL_law 588 = .ok (.iadd, 1) := by decide +kernel
theorem dL_law_589 : decode cL_law 589 = .ok (.iaload, 1) := by decide +kernel
theorem dL_law_590 : decode cL_law 590 = .ok (.aload_n 0, 1) := by decide +kernel
theorem dL_law_591 : decode cL_law 591 = .ok (.iload_n 3, 1) := by decide +kernel
theorem dL_law_592 : decode cL_law 592 = .ok (.iconst 3, 1) := by decide +kernel
theorem dL_law_593 : decode cL_law 593 = .ok (.iadd, 1) := by decide +kernel
theorem dL_law_594 : decode cL_law 594 = .ok (.iaload, 1) := by decide +kernel
theorem dL_law_595 : decode cL_law 595 = .ok (.invokevirtual 78, 3) := by decide +kernel
theorem dL_law_598 : decode cL_law 598 = .ok (.aload_n 2, 1) := by decide +kernel
theorem dL_law_599 : decode cL_law 599 = .ok (.aload_n 0, 1) := by decide +kernel
theorem dL_law_600 : decode cL_law 600 = .ok (.iload_n 3, 1) := by decide +kernel
theorem dL_law_601 : decode cL_law 601 = .ok (.iconst 1, 1) := by decide +kernel
theorem dL_law_602 : decode cL_law 602 = .ok (.iadd, 1) := by decide +kernel
theorem dL_law_603 : decode cL_law 603 = .ok (.iaload, 1) := by decide +kernel
theorem dL_law_604 : decode cL_law 604 = .ok (.aload_n 0, 1) := by decide +kernel
theorem dL_law_605 : decode cL_law 605 = .ok (.iload_n 3, 1) := by decide +kernel
theorem dL_law_606 : decode cL_law 606 = .ok (.iconst 2, 1) := by decide +kernel
theorem dL_law_607 : decode cL_law 607 = .ok (.iadd, 1) := by decide +kernel
theorem dL_law_608 : decode cL_law 608 = .ok (.iaload, 1) := by decide +kernel
theorem dL_law_609 : decode cL_law 609 = .ok (.aload_n 0, 1) := by decide +kernel
theorem dL_law_610 : decode cL_law 610 = .ok (.iload_n 3, 1) := by decide +kernel
theorem dL_law_611 : decode cL_law 611 = .ok (.iconst 3, 1) := by decide +kernel
theorem dL_law_612 : decode cL_law 612 = .ok (.iadd, 1) := by decide +kernel
theorem dL_law_613 : decode cL_law 613 = .ok (.iaload, 1) := by decide +kernel
theorem dL_law_614 : decode cL_law 614 = .ok (.invokevirtual 81, 3) := by decide +kernel
theorem dL_law_617 : decode cL_law 617 = .ok (.if_icmp .eq 140, 3) := by decide +kernel
theorem dL_law_620 : decode cL_law 620 = .ok (.iconst 0, 1) := by decide +kernel
theorem dL_law_621 : decode cL_law 621 = .ok (.ireturn, 1) := by decide +kernel
theorem dL_law_622 : decode cL_law 622 = .ok (.aload_n 1, 1) := by decide +kernel
theorem dL_law_623 : decode cL_law 623 = .ok (.aload_n 0, 1) := by decide +kernel
theorem dL_law_624 : decode cL_law 624 = .ok (.iload_n 3, 1) := by decide +kernel
theorem dL_law_625 : decode cL_law 625 = .ok (.iconst 1, 1) := by decide +kernel
theorem dL_law_626 : decode cL_law 626 = .ok (.iadd, 1) := by decide +kernel
theorem dL_law_627 : decode cL_law 627 = .ok (.iaload, 1) := by decide +kernel
theorem dL_law_628 : decode cL_law 628 = .ok (.invokevirtual 82, 3) := by decide +kernel
theorem dL_law_631 : decode cL_law 631 = .ok (.aload_n 2, 1) := by decide +kernel
theorem dL_law_632 : decode cL_law 632 = .ok (.aload_n 0, 1) := by decide +kernel
theorem dL_law_633 : decode cL_law 633 = .ok (.iload_n 3, 1) := by decide +kernel
theorem dL_law_634 : decode cL_law 634 = .ok (.iconst 1, 1) := by decide +kernel
theorem dL_law_635 : decode cL_law 635 = .ok (.iadd, 1) := by decide +kernel
theorem dL_law_636 : decode cL_law 636 = .ok (.iaload, 1) := by decide +kernel
theorem dL_law_637 : decode cL_law 637 = .ok (.invokevirtual 85, 3) := by decide +kernel
theorem dL_law_640 : decode cL_law 640 = .ok (.if_icmp .eq 117, 3) := by decide +kernel
theorem dL_law_643 : decode cL_law 643 = .ok (.iconst 0, 1) := by decide +kernel
theorem dL_law_644 : decode cL_law 644 = .ok (.ireturn, 1) := by decide +kernel
theorem dL_law_645 : decode cL_law 645 = .ok (.aload_n 1, 1) := by decide +kernel
theorem dL_law_646 : decode cL_law 646 = .ok (.invokevirtual 86, 3) := by decide +kernel
theorem dL_law_649 : decode cL_law 649 = .ok (.aload_n 2, 1) := by decide +kernel
theorem dL_law_650 : decode cL_law 650 = .ok (.invokevirtual 89, 3) := by decide +kernel
theorem dL_law_653 : decode cL_law 653 = .ok (.if_icmp .eq 104, 3) := by decide +kernel
theorem dL_law_656 : decode cL_law 656 = .ok (.iconst 0, 1) := by decide +kernel
theorem dL_law_657 : decode cL_law 657 = .ok (.ireturn, 1) := by decide +kernel
theorem dL_law_658 : decode cL_law 658 = .ok (.aload_n 1, 1) := by decide +kernel
theorem dL_law_659 : decode cL_law 659 = .ok (.aload_n 0, 1) := by decide +kernel
theorem dL_law_660 : decode cL_law 660 = .ok (.iload_n 3, 1) := by decide +kernel
theorem dL_law_661 : decode cL_law 661 = .ok (.iconst 1, 1) := by decide +kernel
theorem dL_law_662 : decode cL_law 662 = .ok (.iadd, 1) := by decide +kernel
theorem dL_law_663 : decode cL_law 663 = .ok (.iaload, 1) := by decide +kernel
theorem dL_law_664 : decode cL_law 664 = .ok (.invokevirtual 90, 3) := by decide +kernel
theorem dL_law_667 : decode cL_law 667 = .ok (.aload_n 2, 1) := by decide +kernel
theorem dL_law_668 : decode cL_law 668 = .ok (.aload_n 0, 1) := by decide +kernel
theorem dL_law_669 : decode cL_law 669 = .ok (.iload_n 3, 1) := by decide +kernel
theorem dL_law_670 : decode cL_law 670 = .ok (.iconst 1, 1) := by decide +kernel
theorem dL_law_671 : decode cL_law 671 = .ok (.iadd, 1) := by decide +kernel
theorem dL_law_672 : decode cL_law 672 = .ok (.iaload, 1) := by decide +kernel
theorem dL_law_673 : decode cL_law 673 = .ok (.invokevirtual 93, 3) := by decide +kernel
theorem dL_law_676 : decode cL_law 676 = .ok (.if_icmp .eq 81, 3) := by decide +kernel
theorem dL_law_679 : decode cL_law 679 = .ok (.iconst 0, 1) := by decide +kernel
theorem dL_law_680 : decode cL_law 680 = .ok (.ireturn, 1) := by decide +kernel
theorem dL_law_681 : decode cL_law 681 = .ok (.aload_n 1, 1) := by decide +kernel
theorem dL_law_682 : decode cL_law 682 = .ok (.invokevirtual 94, 3) := by decide +kernel
theorem dL_law_685 : decode cL_law 685 = .ok (.aload_n 2, 1) := by decide +kernel
theorem dL_law_686 : decode cL_law 686 = .ok (.invokevirtual 97, 3) := by decide +kernel
theorem dL_law_689 : decode cL_law 689 = .ok (.if_icmp .eq 68, 3) := by decide +kernel
theorem dL_law_692 : decode cL_law 692 = .ok (.iconst 0, 1) := by decide +kernel
theorem dL_law_693 : decode cL_law 693 = .ok (.ireturn, 1) := by decide +kernel
theorem dL_law_694 : decode cL_law 694 = .ok (.aload_n 1, 1) := by decide +kernel
theorem dL_law_695 : decode cL_law 695 = .ok (.invokevirtual 98, 3) := by decide +kernel
theorem dL_law_698 : decode cL_law 698 = .ok (.aload_n 2, 1) := by decide +kernel
theorem dL_law_699 : decode cL_law 699 = .ok (.invokevirtual 101, 3) := by decide +kernel
theorem dL_law_702 : decode cL_law 702 = .ok (.if_icmp .eq 55, 3) := by decide +kernel
theorem dL_law_705 : decode cL_law 705 = .ok (.iconst 0, 1) := by decide +kernel
theorem dL_law_706 : decode cL_law 706 = .ok (.ireturn, 1) := by decide +kernel
theorem dL_law_707 : decode cL_law 707 = .ok (.aload_n 1, 1) := by decide +kernel
theorem dL_law_708 : decode cL_law 708 = .ok (.invokevirtual 102, 3) := by decide +kernel
theorem dL_law_711 : decode cL_law 711 = .ok (.aload_n 2, 1) := by decide +kernel
theorem dL_law_712 : decode cL_law 712 = .ok (.invokevirtual 105, 3) := by decide +kernel
theorem dL_law_715 : decode cL_law 715 = .ok (.if_icmp .eq 42, 3) := by decide +kernel
theorem dL_law_718 : decode cL_law 718 = .ok (.iconst 0, 1) := by decide +kernel
theorem dL_law_719 : decode cL_law 719 = .ok (.ireturn, 1) := by decide +kernel
theorem dL_law_720 : decode cL_law 720 = .ok (.aload_n 1, 1) := by decide +kernel
theorem dL_law_721 : decode cL_law 721 = .ok (.aload_n 0, 1) := by decide +kernel
theorem dL_law_722 : decode cL_law 722 = .ok (.iload_n 3, 1) := by decide +kernel
theorem dL_law_723 : decode cL_law 723 = .ok (.iconst 1, 1) := by decide +kernel
theorem dL_law_724 : decode cL_law 724 = .ok (.iadd, 1) := by decide +kernel
theorem dL_law_725 : decode cL_law 725 = .ok (.iaload, 1) := by decide +kernel
