theorem dX7_leavesState_86 : decode cX7_leavesState 86 = .ok (.aload_n 0, 1) := by decide +kernel
theorem dX7_leavesState_87 : decode cX7_leavesState 87 = .ok (.getfield 17, 3) := by decide +kernel
theorem dX7_leavesState_90 : decode cX7_leavesState 90 = .ok (.iconst 0, 1) := by decide +kernel
theorem dX7_leavesState_91 : decode cX7_leavesState 91 = .ok (.iaload, 1) := by decide +kernel
theorem dX7_leavesState_92 : decode cX7_leavesState 92 = .ok (.iastore, 1) := by decide +kernel
theorem dX7_leavesState_93 : decode cX7_leavesState 93 = .ok (.aload_n 0, 1) := by decide +kernel
theorem dX7_leavesState_94 : decode cX7_leavesState 94 = .ok (.getfield 32, 3) := by decide +kernel
theorem dX7_leavesState_97 : decode cX7_leavesState 97 = .ok (.iload_n 1, 1) := by decide +kernel
theorem dX7_leavesState_98 : decode cX7_leavesState 98 = .ok (.iconst 3, 1) := by decide +kernel
theorem dX7_leavesState_99 : decode cX7_leavesState 99 = .ok (.iadd, 1) := by decide +kernel
theorem dX7_leavesState_100 : decode cX7_leavesState 100 = .ok (.aload_n 0, 1) := by decide +kernel
theorem dX7_leavesState_101 : decode cX7_leavesState 101 = .ok (.getfield 17, 3) := by decide +kernel
theorem dX7_leavesState_104 : decode cX7_leavesState 104 = .ok (.iconst 1, 1) := by decide +kernel
theorem dX7_leavesState_105 : decode cX7_leavesState 105 = .ok (.iaload, 1) := by decide +kernel
theorem dX7_leavesState_106 : decode cX7_leavesState 106 = .ok (.iastore, 1) := by decide +kernel
theorem dX7_leavesState_107 : decode cX7_leavesState 107 = .ok (.iconst 0, 1) := by decide +kernel
theorem dX7_leavesState_108 : decode cX7_leavesState 108 = .ok (.istore_n 2, 1) := by decide +kernel
theorem dX7_leavesState_109 : decode cX7_leavesState 109 = .ok (.iload_n 2, 1) := by decide +kernel
theorem dX7_leavesState_110 : decode cX7_leavesState 110 = .ok (.bipush 16, 2) := by decide +kernel
theorem dX7_leavesState_112 : decode cX7_leavesState 112 = .ok (.if_icmp .ge 76, 3) := by decide +kernel
theorem dX7_leavesState_115 : decode cX7_leavesState 115 = .ok (.aload_n 0, 1) := by decide +kernel
theorem dX7_leavesState_116 : decode cX7_leavesState 116 = .ok (.getfield 32, 3) := by decide +kernel
theorem dX7_leavesState_119 : decode cX7_leavesState 119 = .ok (.iload_n 1, 1) := by decide +kernel
theorem dX7_leavesState_120 : decode cX7_leavesState 120 = .ok (.iconst 4, 1) := by decide +kernel
theorem dX7_leavesState_121 : decode cX7_leavesState 121 = .ok (.iadd, 1) := by decide +kernel
theorem dX7_leavesState_122 : decode cX7_leavesState 122 = .ok (.iload_n 2, 1) := by decide +kernel
theorem dX7_leavesState_123 : decode cX7_leavesState 123 = .ok (.iadd, 1) := by decide +kernel
theorem dX7_leavesState_124 : decode cX7_leavesState 124 = .ok (.aload_n 0, 1) := by decide +kernel
theorem dX7_leavesState_125 : decode cX7_leavesState 125 = .ok (.getfield 20, 3) := by decide +kernel
theorem dX7_leavesState_128 : decode cX7_leavesState 128 = .ok (.iload_n 2, 1) := by decide +kernel
theorem dX7_leavesState_129 : decode cX7_leavesState 129 = .ok (.iaload, 1) := by decide +kernel
theorem dX7_leavesState_130 : decode cX7_leavesState 130 = .ok (.iastore, 1) := by decide +kernel
theorem dX7_leavesState_131 : decode cX7_leavesState 131 = .ok (.aload_n 0, 1) := by decide +kernel
theorem dX7_leavesState_132 : decode cX7_leavesState 132 = .ok (.getfield 32, 3) := by decide +kernel
theorem dX7_leavesState_135 : decode cX7_leavesState 135 = .ok (.iload_n 1, 1) := by decide +kernel
theorem dX7_leavesState_136 : decode cX7_leavesState 136 = .ok (.bipush 20, 2) := by decide +kernel
theorem dX7_leavesState_138 : decode cX7_leavesState 138 = .ok (.iadd, 1) := by decide +kernel
theorem dX7_leavesState_139 : decode cX7_leavesState 139 = .ok (.iload_n 2, 1) := by decide +kernel
theorem dX7_leavesState_140 : decode cX7_leavesState 140 = .ok (.iadd, 1) := by decide +kernel
theorem dX7_leavesState_141 : decode cX7_leavesState 141 = .ok (.aload_n 0, 1) := by decide +kernel
theorem dX7_leavesState_142 : decode cX7_leavesState 142 = .ok (.getfield 23, 3) := by decide +kernel
theorem dX7_leavesState_145 : decode cX7_leavesState 145 = .ok (.iload_n 2, 1) := by decide +kernel
theorem dX7_leavesState_146 : decode cX7_leavesState 146 = .ok (.iaload, 1) := by decide +kernel
theorem dX7_leavesState_147 : decode cX7_leavesState 147 = .ok (.iastore, 1) := by decide +kernel
theorem dX7_leavesState_148 : decode cX7_leavesState 148 = .ok (.aload_n 0, 1) := by decide +kernel
theorem dX7_leavesState_149 : decode cX7_leavesState 149 = .ok (.getfield 32, 3) := by decide +kernel
theorem dX7_leavesState_152 : decode cX7_leavesState 152 = .ok (.iload_n 1, 1) := by decide +kernel
theorem dX7_leavesState_153 : decode cX7_leavesState 153 = .ok (.bipush 36, 2) := by decide +kernel
theorem dX7_leavesState_155 : decode cX7_leavesState 155 = .ok (.iadd, 1) := by decide +kernel
theorem dX7_leavesState_156 : decode cX7_leavesState 156 = .ok (.iload_n 2, 1) := by decide +kernel
theorem dX7_leavesState_157 : decode cX7_leavesState 157 = .ok (.iadd, 1) := by decide +kernel
theorem dX7_leavesState_158 : decode cX7_leavesState 158 = .ok (.aload_n 0, 1) := by decide +kernel
theorem dX7_leavesState_159 : decode cX7_leavesState 159 = .ok (.getfield 26, 3) := by decide +kernel
theorem dX7_leavesState_162 : decode cX7_leavesState 162 = .ok (.iload_n 2, 1) := by decide +kernel
theorem dX7_leavesState_163 : decode cX7_leavesState 163 = .ok (.iaload, 1) := by decide +kernel
theorem dX7_leavesState_164 : decode cX7_leavesState 164 = .ok (.iastore, 1) := by decide +kernel
theorem dX7_leavesState_165 : decode cX7_leavesState 165 = .ok (.aload_n 0, 1) := by decide +kernel
theorem dX7_leavesState_166 : decode cX7_leavesState 166 = .ok (.getfield 32, 3) := by decide +kernel
theorem dX7_leavesState_169 : decode cX7_leavesState 169 = .ok (.iload_n 1, 1) := by decide +kernel
theorem dX7_leavesState_170 : decode cX7_leavesState 170 = .ok (.bipush 52, 2) := by decide +kernel
theorem dX7_leavesState_172 : decode cX7_leavesState 172 = .ok (.iadd, 1) := by decide +kernel
theorem dX7_leavesState_173 : decode cX7_leavesState 173 = .ok (.iload_n 2, 1) := by decide +kernel
theorem dX7_leavesState_174 : decode cX7_leavesState 174 = .ok (.iadd, 1) := by decide +kernel
theorem dX7_leavesState_175 : decode cX7_leavesState 175 = .ok (.aload_n 0, 1) := by decide +kernel
theorem dX7_leavesState_176 : decode cX7_leavesState 176 = .ok (.getfield 29, 3) := by decide +kernel
theorem dX7_leavesState_179 : decode cX7_leavesState 179 = .ok (.iload_n 2, 1) := by decide +kernel
theorem dX7_leavesState_180 : decode cX7_leavesState 180 = .ok (.iaload, 1) := by decide +kernel
theorem dX7_leavesState_181 : decode cX7_leavesState 181 = .ok (.iastore, 1) := by decide +kernel
theorem dX7_leavesState_182 : decode cX7_leavesState 182 = .ok (.iinc 2 1, 3) := by decide +kernel
theorem dX7_leavesState_185 : decode cX7_leavesState 185 = .ok (.goto (-76), 3) := by decide +kernel
theorem dX7_leavesState_188 : decode cX7_leavesState 188 = .ok (.aload_n 0, 1) := by decide +kernel
theorem dX7_leavesState_189 : decode cX7_leavesState 189 = .ok (.dup, 1) := by decide +kernel
theorem dX7_leavesState_190 : decode cX7_leavesState 190 = .ok (.getfield 79, 3) := by decide +kernel
theorem dX7_leavesState_193 : decode cX7_leavesState 193 = .ok (.iconst 1, 1) := by decide +kernel
theorem dX7_leavesState_194 : decode cX7_leavesState 194 = .ok (.iadd, 1) := by decide +kernel
theorem dX7_leavesState_195 : decode cX7_leavesState 195 = .ok (.putfield 79, 3) := by decide +kernel
theorem dX7_leavesState_198 : decode cX7_leavesState 198 = .ok (.return_, 1) := by decide +kernel
theorem dX7_back_0 : decode cX7_back 0 = .ok (.aload_n 0, 1) := by decide +kernel
theorem dX7_back_1 : decode cX7_back 1 = .ok (.getfield 79, 3) := by decide +kernel
theorem dX7_back_4 : decode cX7_back 4 = .ok (.ifCond .ne 8, 3) := by decide +kernel
theorem dX7_back_7 : decode cX7_back 7 = .ok (.aload_n 0, 1) := by decide +kernel
theorem dX7_back_8 : decode cX7_back 8 = .ok (.invokevirtual 82, 3) := by decide +kernel
theorem dX7_back_11 : decode cX7_back 11 = .ok (.ireturn, 1) := by decide +kernel
theorem dX7_back_12 : decode cX7_back 12 = .ok (.aload_n 0, 1) := by decide +kernel
theorem dX7_back_13 : decode cX7_back 13 = .ok (.dup, 1) := by decide +kernel
theorem dX7_back_14 : decode cX7_back 14 = .ok (.getfield 79, 3) := by decide +kernel
theorem dX7_back_17 : decode cX7_back 17 = .ok (.iconst 1, 1) := by decide +kernel
theorem dX7_back_18 : decode cX7_back 18 = .ok (.isub, 1) := by decide +kernel
theorem dX7_back_19 : decode cX7_back 19 = .ok (.putfield 79, 3) := by decide +kernel
theorem dX7_back_22 : decode cX7_back 22 = .ok (.bipush 68, 2) := by decide +kernel
theorem dX7_back_24 : decode cX7_back 24 = .ok (.aload_n 0, 1) := by decide +kernel
theorem dX7_back_25 : decode cX7_back 25 = .ok (.getfield 79, 3) := by decide +kernel
theorem dX7_back_28 : decode cX7_back 28 = .ok (.imul, 1) := by decide +kernel
theorem dX7_back_29 : decode cX7_back 29 = .ok (.istore_n 1, 1) := by decide +kernel
theorem dX7_back_30 : decode cX7_back 30 = .ok (.aload_n 0, 1) := by decide +kernel
theorem dX7_back_31 : decode cX7_back 31 = .ok (.aload_n 0, 1) := by decide +kernel
theorem dX7_back_32 : decode cX7_back 32 = .ok (.getfield 32, 3) := by decide +kernel
theorem dX7_back_35 : decode cX7_back 35 = .ok (.iload_n 1, 1) := by decide +kernel
theorem dX7_back_36 : decode cX7_back 36 = .ok (.iaload, 1) := by decide +kernel
theorem dX7_back_37 : decode cX7_back 37 = .ok (.putfield 13, 3) := by decide +kernel
theorem dX7_back_40 : decode cX7_back 40 = .ok (.aload_n 0, 1) := by decide +kernel
theorem dX7_back_41 : decode cX7_back 41 = .ok (.aload_n 0, 1) := by decide +kernel
theorem dX7_back_42 : decode cX7_back 42 = .ok (.getfield 32, 3) := by decide +kernel
theorem dX7_back_45 : decode cX7_back 45 = .ok (.iload_n 1, 1) := by decide +kernel
theorem dX7_back_46 : decode cX7_back 46 = .ok (.iconst 1, 1) := by decide +kernel
theorem dX7_back_47 : decode cX7_back 47 = .ok (.iadd, 1) := by decide +kernel
theorem dX7_back_48 : decode cX7_back 48 = .ok (.iaload, 1) := by decide +kernel
theorem dX7_back_49 : decode cX7_back 49 = .ok (.putfield 76, 3) := by decide +kernel
theorem dX7_back_52 : decode cX7_back 52 = .ok (.aload_n 0, 1) := by decide +kernel
theorem dX7_back_53 : decode cX7_back 53 = .ok (.getfield 17, 3) := by decide +kernel
theorem dX7_back_56 : decode cX7_back 56 = .ok (.iconst 0, 1) := by decide +kernel
theorem dX7_back_57 : decode cX7_back 57 = .ok (.aload_n 0, 1) := by decide +kernel
theorem dX7_back_58 : decode cX7_back 58 = .ok (.getfield 32, 3) := by decide +kernel
theorem dX7_back_61 : decode cX7_back 61 = .ok (.iload_n 1, 1) := by decide +kernel
theorem dX7_back_62 : decode cX7_back 62 = .ok (.iconst 2, 1) := by decide +kernel
theorem dX7_back_63 : decode cX7_back 63 = .ok (.iadd, 1) := by decide +kernel
theorem dX7_back_64 : decode cX7_back 64 = .ok (.iaload, 1) := by decide +kernel
theorem dX7_back_65 : decode cX7_back 65 = .ok (.iastore, 1) := by decide +kernel
theorem dX7_back_66 : decode cX7_back 66 = .ok (.aload_n 0, 1) := by decide +kernel
theorem dX7_back_67 : decode cX7_back 67 = .ok (.getfield 17, 3) := by decide +kernel
theorem dX7_back_70 : decode cX7_back 70 = .ok (.iconst 1, 1) := by decide +kernel
theorem dX7_back_71 : decode cX7_back 71 = .ok (.aload_n 0, 1) := by decide +kernel
theorem dX7_back_72 : decode cX7_back 72 = .ok (.getfield 32, 3) := by decide +kernel
theorem dX7_back_75 : decode cX7_back 75 = .ok (.iload_n 1, 1) := by decide +kernel
theorem dX7_back_76 : decode cX7_back 76 = .ok (.iconst 3, 1) := by decide +kernel
theorem dX7_back_77 : decode cX7_back 77 = .ok (.iadd, 1) := by decide +kernel
theorem dX7_back_78 : decode cX7_back 78 = .ok (.iaload, 1) := by decide +kernel
theorem dX7_back_79 : decode cX7_back 79 = .ok (.iastore, 1) := by decide +kernel
theorem dX7_back_80 : decode cX7_back 80 = .ok (.iconst 0, 1) := by decide +kernel
theorem dX7_back_81 : decode cX7_back 81 = .ok (.istore_n 2, 1) := by decide +kernel
theorem dX7_back_82 : decode cX7_back 82 = .ok (.iload_n 2, 1) := by decide +kernel
theorem dX7_back_83 : decode cX7_back 83 = .ok (.bipush 16, 2) := by decide +kernel
theorem dX7_back_85 : decode cX7_back 85 = .ok (.if_icmp .ge 76, 3) := by decide +kernel
theorem dX7_back_88 : decode cX7_back 88 = .ok (.aload_n 0, 1) := by decide +kernel
theorem dX7_back_89 : decode cX7_back 89 = .ok (.getfield 20, 3) := by decide +kernel
theorem dX7_back_92 : decode cX7_back 92 = .ok (.iload_n 2, 1) := by decide +kernel
theorem dX7_back_93 : decode cX7_back 93 = .ok (.aload_n 0, 1) := by decide +kernel
theorem dX7_back_94 : decode cX7_back 94 = .ok (.getfield 32, 3) := by decide +kernel
theorem dX7_back_97 : decode cX7_back 97 = .ok (.iload_n 1, 1) := by decide +kernel
theorem dX7_back_98 : decode cX7_back 98 = .ok (.iconst 4, 1) := by decide +kernel
theorem dX7_back_99 : decode cX7_back 99 = .ok (.iadd, 1) := by decide +kernel
theorem dX7_back_100 : decode cX7_back 100 = .ok (.iload_n 2, 1) := by decide +kernel
theorem dX7_back_101 : decode cX7_back 101 = .ok (.iadd, 1) := by decide +kernel
theorem dX7_back_102 : decode cX7_back 102 = .ok (.iaload, 1) := by decide +kernel
theorem dX7_back_103 : decode cX7_back 103 = .ok (.iastore, 1) := by decide +kernel
theorem dX7_back_104 : decode cX7_back 104 = .ok (.aload_n 0, 1) := by decide +kernel
theorem dX7_back_105 : decode cX7_back 105 = .ok (.getfield 23, 3) := by decide +kernel
theorem dX7_back_108 : decode cX7_back 108 = .ok (.iload_n 2, 1) := by decide +kernel
theorem dX7_back_109 : decode cX7_back 109 = .ok (.aload_n 0, 1) := by decide +kernel
theorem dX7_back_110 : decode cX7_back 110 = .ok (.getfield 32, 3) := by decide +kernel
theorem dX7_back_113 : decode cX7_back 113 = .ok (.iload_n 1, 1) := by decide +kernel
theorem dX7_back_114 : decode cX7_back 114 = .ok (.bipush 20, 2) := by decide +kernel
theorem dX7_back_116 : decode cX7_back 116 = .ok (.iadd, 1) := by decide +kernel
theorem dX7_back_117 : decode cX7_back 117 = .ok (.iload_n 2, 1) := by decide +kernel
theorem dX7_back_118 : decode cX7_back 118 = .ok (.iadd, 1) := by decide +kernel
theorem dX7_back_119 : decode cX7_back 119 = .ok (.iaload, 1) := by decide +kernel
theorem dX7_back_120 : decode cX7_back 120 = .ok (.iastore, 1) := by decide +kernel
theorem dX7_back_121 : decode cX7_back 121 = .ok (.aload_n 0, 1) := by decide +kernel
theorem dX7_back_122 : decode cX7_back 122 = .ok (.getfield 26, 3) := by decide +kernel
theorem dX7_back_125 : decode cX7_back 125 = .ok (.iload_n 2, 1) := by decide +kernel
theorem dX7_back_126 : decode cX7_back 126 = .ok (.aload_n 0, 1) := by decide +kernel
theorem dX7_back_127 : decode cX7_back 127 = .ok (.getfield 32, 3) := by decide +kernel
theorem dX7_back_130 : decode cX7_back 130 = .ok (.iload_n 1, 1) := by decide +kernel
theorem dX7_back_131 : decode cX7_back 131 = .ok (.bipush 36, 2) := by decide +kernel
theorem dX7_back_133 : decode cX7_back 133 = .ok (.iadd, 1) := by decide +kernel
theorem dX7_back_134 : decode cX7_back 134 = .ok (.iload_n 2, 1) := by decide +kernel
theorem dX7_back_135 : decode cX7_back 135 = .ok (.iadd, 1) := by decide +kernel
theorem dX7_back_136 : decode cX7_back 136 = .ok (.iaload, 1) := by decide +kernel
theorem dX7_back_137 : decode cX7_back 137 = .ok (.iastore, 1) := by decide +kernel
theorem dX7_back_138 : decode cX7_back 138 = .ok (.aload_n 0, 1) := by decide +kernel
theorem dX7_back_139 : decode cX7_back 139 = .ok (.getfield 29, 3) := by decide +kernel
theorem dX7_back_142 : decode cX7_back 142 = .ok (.iload_n 2, 1) := by decide +kernel
theorem dX7_back_143 : decode cX7_back 143 = .ok (.aload_n 0, 1) := by decide +kernel
theorem dX7_back_144 : decode cX7_back 144 = .ok (.getfield 32, 3) := by decide +kernel
theorem dX7_back_147 : decode cX7_back 147 = .ok (.iload_n 1, 1) := by decide +kernel
theorem dX7_back_148 : decode cX7_back 148 = .ok (.bipush 52, 2) := by decide +kernel
theorem dX7_back_150 : decode cX7_back 150 = .ok (.iadd, 1) := by decide +kernel
theorem dX7_back_151 : decode cX7_back 151 = .ok (.iload_n 2, 1) := by decide +kernel
theorem dX7_back_152 : decode cX7_back 152 = .ok (.iadd, 1) := by decide +kernel
theorem dX7_back_153 : decode cX7_back 153 = .ok (.iaload, 1) := by decide +kernel
theorem dX7_back_154 : decode cX7_back 154 = .ok (.iastore, 1) := by decide +kernel
theorem dX7_back_155 : decode cX7_back 155 = .ok (.iinc 2 1, 3) := by decide +kernel
theorem dX7_back_158 : decode cX7_back 158 = .ok (.goto (-76), 3) := by decide +kernel
theorem dX7_back_161 : decode cX7_back 161 = .ok (.aload_n 0, 1) := by decide +kernel
theorem dX7_back_162 : decode cX7_back 162 = .ok (.getfield 79, 3) := by decide +kernel
theorem dX7_back_165 : decode cX7_back 165 = .ok (.ireturn, 1) := by decide +kernel
theorem dX7_sides_0 : decode cX7_sides 0 = .ok (.iload_n 1, 1) := by decide +kernel
theorem dX7_sides_1 : decode cX7_sides 1 = .ok (.iconst 1, 1) := by decide +kernel
theorem dX7_sides_2 : decode cX7_sides 2 = .ok (.iconst 4, 1) := by decide +kernel
theorem dX7_sides_3 : decode cX7_sides 3 = .ok (.invokestatic 72, 3) := by decide +kernel
theorem dX7_sides_6 : decode cX7_sides 6 = .ok (.ifCond .ne 8, 3) := by decide +kernel
theorem dX7_sides_9 : decode cX7_sides 9 = .ok (.aload_n 0, 1) := by decide +kernel
theorem dX7_sides_10 : decode cX7_sides 10 = .ok (.invokevirtual 85, 3) := by decide +kernel
theorem dX7_sides_13 : decode cX7_sides 13 = .ok (.ireturn, 1) := by decide +kernel
theorem dX7_sides_14 : decode cX7_sides 14 = .ok (.aload_n 0, 1) := by decide +kernel
theorem dX7_sides_15 : decode cX7_sides 15 = .ok (.invokevirtual 88, 3) := by decide +kernel
theorem dX7_sides_18 : decode cX7_sides 18 = .ok (.aload_n 0, 1) := by decide +kernel
theorem dX7_sides_19 : decode cX7_sides 19 = .ok (.getfield 13, 3) := by decide +kernel
theorem dX7_sides_22 : decode cX7_sides 22 = .ok (.istore_n 2, 1) := by decide +kernel
theorem dX7_sides_23 : decode cX7_sides 23 = .ok (.aload_n 0, 1) := by decide +kernel
theorem dX7_sides_24 : decode cX7_sides 24 = .ok (.iload_n 1, 1) := by decide +kernel
theorem dX7_sides_25 : decode cX7_sides 25 = .ok (.putfield 13, 3) := by decide +kernel
theorem dX7_sides_28 : decode cX7_sides 28 = .ok (.aload_n 0, 1) := by decide +kernel
theorem dX7_sides_29 : decode cX7_sides 29 = .ok (.iconst 0, 1) := by decide +kernel
theorem dX7_sides_30 : decode cX7_sides 30 = .ok (.putfield 76, 3) := by decide +kernel
theorem dX7_sides_33 : decode cX7_sides 33 = .ok (.iload_n 2, 1) := by decide +kernel
theorem dX7_sides_34 : decode cX7_sides 34 = .ok (.ireturn, 1) := by decide +kernel
theorem dX7_comes_0 : decode cX7_comes 0 = .ok (.aload_n 0, 1) := by decide +kernel
theorem dX7_comes_1 : decode cX7_comes 1 = .ok (.getfield 20, 3) := by decide +kernel
theorem dX7_comes_4 : decode cX7_comes 4 = .ok (.aload_n 0, 1) := by decide +kernel
theorem dX7_comes_5 : decode cX7_comes 5 = .ok (.getfield 76, 3) := by decide +kernel
theorem dX7_comes_8 : decode cX7_comes 8 = .ok (.iload_n 1, 1) := by decide +kernel
theorem dX7_comes_9 : decode cX7_comes 9 = .ok (.iastore, 1) := by decide +kernel
theorem dX7_comes_10 : decode cX7_comes 10 = .ok (.aload_n 0, 1) := by decide +kernel
theorem dX7_comes_11 : decode cX7_comes 11 = .ok (.getfield 23, 3) := by decide +kernel
theorem dX7_comes_14 : decode cX7_comes 14 = .ok (.aload_n 0, 1) := by decide +kernel
theorem dX7_comes_15 : decode cX7_comes 15 = .ok (.getfield 76, 3) := by decide +kernel
theorem dX7_comes_18 : decode cX7_comes 18 = .ok (.iload_n 2, 1) := by decide +kernel
theorem dX7_comes_19 : decode cX7_comes 19 = .ok (.iastore, 1) := by decide +kernel
theorem dX7_comes_20 : decode cX7_comes 20 = .ok (.aload_n 0, 1) := by decide +kernel
theorem dX7_comes_21 : decode cX7_comes 21 = .ok (.getfield 26, 3) := by decide +kernel
theorem dX7_comes_24 : decode cX7_comes 24 = .ok (.aload_n 0, 1) := by decide +kernel
theorem dX7_comes_25 : decode cX7_comes 25 = .ok (.getfield 76, 3) := by decide +kernel
theorem dX7_comes_28 : decode cX7_comes 28 = .ok (.iload_n 3, 1) := by decide +kernel
theorem dX7_comes_29 : decode cX7_comes 29 = .ok (.iastore, 1) := by decide +kernel
theorem dX7_comes_30 : decode cX7_comes 30 = .ok (.aload_n 0, 1) := by decide +kernel
theorem dX7_comes_31 : decode cX7_comes 31 = .ok (.getfield 29, 3) := by decide +kernel
theorem dX7_comes_34 : decode cX7_comes 34 = .ok (.aload_n 0, 1) := by decide +kernel
theorem dX7_comes_35 : decode cX7_comes 35 = .ok (.getfield 76, 3) := by decide +kernel
theorem dX7_comes_38 : decode cX7_comes 38 = .ok (.iload 4, 2) := by decide +kernel
theorem dX7_comes_40 : decode cX7_comes 40 = .ok (.iastore, 1) := by decide +kernel
theorem dX7_comes_41 : decode cX7_comes 41 = .ok (.aload_n 0, 1) := by decide +kernel
theorem dX7_comes_42 : decode cX7_comes 42 = .ok (.dup, 1) := by decide +kernel
theorem dX7_comes_43 : decode cX7_comes 43 = .ok (.getfield 76, 3) := by decide +kernel
theorem dX7_comes_46 : decode cX7_comes 46 = .ok (.iconst 1, 1) := by decide +kernel
theorem dX7_comes_47 : decode cX7_comes 47 = .ok (.iadd, 1) := by decide +kernel
theorem dX7_comes_48 : decode cX7_comes 48 = .ok (.putfield 76, 3) := by decide +kernel
theorem dX7_comes_51 : decode cX7_comes 51 = .ok (.return_, 1) := by decide +kernel
theorem dX7_parcel_0 : decode cX7_parcel 0 = .ok (.aload_n 0, 1) := by decide +kernel
theorem dX7_parcel_1 : decode cX7_parcel 1 = .ok (.iload_n 1, 1) := by decide +kernel
theorem dX7_parcel_2 : decode cX7_parcel 2 = .ok (.invokevirtual 91, 3) := by decide +kernel
theorem dX7_parcel_5 : decode cX7_parcel 5 = .ok (.ifCond .eq 27, 3) := by decide +kernel
theorem dX7_parcel_8 : decode cX7_parcel 8 = .ok (.aload_n 0, 1) := by decide +kernel
theorem dX7_parcel_9 : decode cX7_parcel 9 = .ok (.iload_n 2, 1) := by decide +kernel
theorem dX7_parcel_10 : decode cX7_parcel 10 = .ok (.invokevirtual 91, 3) := by decide +kernel
theorem dX7_parcel_13 : decode cX7_parcel 13 = .ok (.ifCond .eq 19, 3) := by decide +kernel
theorem dX7_parcel_16 : decode cX7_parcel 16 = .ok (.aload_n 0, 1) := by decide +kernel
theorem dX7_parcel_17 : decode cX7_parcel 17 = .ok (.iload_n 3, 1) := by decide +kernel
theorem dX7_parcel_18 : decode cX7_parcel 18 = .ok (.invokevirtual 91, 3) := by decide +kernel
theorem dX7_parcel_21 : decode cX7_parcel 21 = .ok (.ifCond .eq 11, 3) := by decide +kernel
theorem dX7_parcel_24 : decode cX7_parcel 24 = .ok (.iload 4, 2) := by decide +kernel
theorem dX7_parcel_26 : decode cX7_parcel 26 = .ok (.invokestatic 95, 3) := by decide +kernel
theorem dX7_parcel_29 : decode cX7_parcel 29 = .ok (.ifCond .ne 8, 3) := by decide +kernel
theorem dX7_parcel_32 : decode cX7_parcel 32 = .ok (.aload_n 0, 1) := by decide +kernel
theorem dX7_parcel_33 : decode cX7_parcel 33 = .ok (.invokevirtual 85, 3) := by decide +kernel
theorem dX7_parcel_36 : decode cX7_parcel 36 = .ok (.ireturn, 1) := by decide +kernel
theorem dX7_parcel_37 : decode cX7_parcel 37 = .ok (.aload_n 0, 1) := by decide +kernel
theorem dX7_parcel_38 : decode cX7_parcel 38 = .ok (.getfield 76, 3) := by decide +kernel
theorem dX7_parcel_41 : decode cX7_parcel 41 = .ok (.bipush 16, 2) := by decide +kernel
theorem dX7_parcel_43 : decode cX7_parcel 43 = .ok (.if_icmp .ne 8, 3) := by decide +kernel
theorem dX7_parcel_46 : decode cX7_parcel 46 = .ok (.aload_n 0, 1) := by decide +kernel
theorem dX7_parcel_47 : decode cX7_parcel 47 = .ok (.invokevirtual 98, 3) := by decide +kernel
theorem dX7_parcel_50 : decode cX7_parcel 50 = .ok (.ireturn, 1) := by decide +kernel
theorem dX7_parcel_51 : decode cX7_parcel 51 = .ok (.aload_n 0, 1) := by decide +kernel
theorem dX7_parcel_52 : decode cX7_parcel 52 = .ok (.invokevirtual 88, 3) := by decide +kernel
theorem dX7_parcel_55 : decode cX7_parcel 55 = .ok (.aload_n 0, 1) := by decide +kernel
theorem dX7_parcel_56 : decode cX7_parcel 56 = .ok (.iload_n 1, 1) := by decide +kernel
theorem dX7_parcel_57 : decode cX7_parcel 57 = .ok (.iload_n 2, 1) := by decide +kernel
theorem dX7_parcel_58 : decode cX7_parcel 58 = .ok (.iload_n 3, 1) := by decide +kernel
theorem dX7_parcel_59 : decode cX7_parcel 59 = .ok (.iload 4, 2) := by decide +kernel
theorem dX7_parcel_61 : decode cX7_parcel 61 = .ok (.invokevirtual 101, 3) := by decide +kernel
theorem dX7_parcel_64 : decode cX7_parcel 64 = .ok (.aload_n 0, 1) := by decide +kernel
theorem dX7_parcel_65 : decode cX7_parcel 65 = .ok (.getfield 76, 3) := by decide +kernel
theorem dX7_parcel_68 : decode cX7_parcel 68 = .ok (.iconst 1, 1) := by decide +kernel
theorem dX7_parcel_69 : decode cX7_parcel 69 = .ok (.isub, 1) := by decide +kernel
theorem dX7_parcel_70 : decode cX7_parcel 70 = .ok (.ireturn, 1) := by decide +kernel
theorem dX7_tells_0 : decode cX7_tells 0 = .ok (.iload_n 2, 1) := by decide +kernel
theorem dX7_tells_1 : decode cX7_tells 1 = .ok (.ifCond .ne 12, 3) := by decide +kernel
theorem dX7_tells_4 : decode cX7_tells 4 = .ok (.aload_n 0, 1) := by decide +kernel
theorem dX7_tells_5 : decode cX7_tells 5 = .ok (.getfield 20, 3) := by decide +kernel
theorem dX7_tells_8 : decode cX7_tells 8 = .ok (.iload_n 1, 1) := by decide +kernel
theorem dX7_tells_9 : decode cX7_tells 9 = .ok (.iaload, 1) := by decide +kernel
theorem dX7_tells_10 : decode cX7_tells 10 = .ok (.goto 37, 3) := by decide +kernel
theorem dX7_tells_13 : decode cX7_tells 13 = .ok (.iload_n 2, 1) := by decide +kernel
theorem dX7_tells_14 : decode cX7_tells 14 = .ok (.iconst 1, 1) := by decide +kernel
theorem dX7_tells_15 : decode cX7_tells 15 = .ok (.if_icmp .ne 12, 3) := by decide +kernel
theorem dX7_tells_18 : decode cX7_tells 18 = .ok (.aload_n 0, 1) := by decide +kernel
theorem dX7_tells_19 : decode cX7_tells 19 = .ok (.getfield 23, 3) := by decide +kernel
theorem dX7_tells_22 : decode cX7_tells 22 = .ok (.iload_n 1, 1) := by decide +kernel
theorem dX7_tells_23 : decode cX7_tells 23 = .ok (.iaload, 1) := by decide +kernel
theorem dX7_tells_24 : decode cX7_tells 24 = .ok (.goto 23, 3) := by decide +kernel
theorem dX7_tells_27 : decode cX7_tells 27 = .ok (.iload_n 2, 1) := by decide +kernel
theorem dX7_tells_28 : decode cX7_tells 28 = .ok (.iconst 2, 1) := by decide +kernel
theorem dX7_tells_29 : decode cX7_tells 29 = .ok (.if_icmp .ne 12, 3) := by decide +kernel
theorem dX7_tells_32 : decode cX7_tells 32 = .ok (.aload_n 0, 1) := by decide +kernel
theorem dX7_tells_33 : decode cX7_tells 33 = .ok (.getfield 26, 3) := by decide +kernel
theorem dX7_tells_36 : decode cX7_tells 36 = .ok (.iload_n 1, 1) := by decide +kernel
theorem dX7_tells_37 : decode cX7_tells 37 = .ok (.iaload, 1) := by decide +kernel
theorem dX7_tells_38 : decode cX7_tells 38 = .ok (.goto 9, 3) := by decide +kernel
theorem dX7_tells_41 : decode cX7_tells 41 = .ok (.aload_n 0, 1) := by decide +kernel
theorem dX7_tells_42 : decode cX7_tells 42 = .ok (.getfield 29, 3) := by decide +kernel
theorem dX7_tells_45 : decode cX7_tells 45 = .ok (.iload_n 1, 1) := by decide +kernel
theorem dX7_tells_46 : decode cX7_tells 46 = .ok (.iaload, 1) := by decide +kernel
theorem dX7_tells_47 : decode cX7_tells 47 = .ok (.ireturn, 1) := by decide +kernel
theorem dX7_sets_0 : decode cX7_sets 0 = .ok (.aload_n 0, 1) := by decide +kernel
theorem dX7_sets_1 : decode cX7_sets 1 = .ok (.iload_n 1, 1) := by decide +kernel
theorem dX7_sets_2 : decode cX7_sets 2 = .ok (.invokevirtual 105, 3) := by decide +kernel
theorem dX7_sets_5 : decode cX7_sets 5 = .ok (.ifCond .eq 35, 3) := by decide +kernel
theorem dX7_sets_8 : decode cX7_sets 8 = .ok (.iload_n 2, 1) := by decide +kernel
theorem dX7_sets_9 : decode cX7_sets 9 = .ok (.iconst 0, 1) := by decide +kernel
theorem dX7_sets_10 : decode cX7_sets 10 = .ok (.iconst 3, 1) := by decide +kernel
theorem dX7_sets_11 : decode cX7_sets 11 = .ok (.invokestatic 72, 3) := by decide +kernel
theorem dX7_sets_14 : decode cX7_sets 14 = .ok (.ifCond .eq 26, 3) := by decide +kernel
theorem dX7_sets_17 : decode cX7_sets 17 = .ok (.iload_n 2, 1) := by decide +kernel
theorem dX7_sets_18 : decode cX7_sets 18 = .ok (.iconst 3, 1) := by decide +kernel
theorem dX7_sets_19 : decode cX7_sets 19 = .ok (.if_icmp .ne 13, 3) := by decide +kernel
theorem dX7_sets_22 : decode cX7_sets 22 = .ok (.iload_n 3, 1) := by decide +kernel
theorem dX7_sets_23 : decode cX7_sets 23 = .ok (.invokestatic 95, 3) := by decide +kernel
theorem dX7_sets_26 : decode cX7_sets 26 = .ok (.ifCond .eq 14, 3) := by decide +kernel
theorem dX7_sets_29 : decode cX7_sets 29 = .ok (.goto 16, 3) := by decide +kernel
theorem dX7_sets_32 : decode cX7_sets 32 = .ok (.aload_n 0, 1) := by decide +kernel
theorem dX7_sets_33 : decode cX7_sets 33 = .ok (.iload_n 3, 1) := by decide +kernel
theorem dX7_sets_34 : decode cX7_sets 34 = .ok (.invokevirtual 91, 3) := by decide +kernel
theorem dX7_sets_37 : decode cX7_sets 37 = .ok (.ifCond .ne 8, 3) := by decide +kernel
theorem dX7_sets_40 : decode cX7_sets 40 = .ok (.aload_n 0, 1) := by decide +kernel
theorem dX7_sets_41 : decode cX7_sets 41 = .ok (.invokevirtual 85, 3) := by decide +kernel
theorem dX7_sets_44 : decode cX7_sets 44 = .ok (.ireturn, 1) := by decide +kernel
theorem dX7_sets_45 : decode cX7_sets 45 = .ok (.aload_n 0, 1) := by decide +kernel
theorem dX7_sets_46 : decode cX7_sets 46 = .ok (.invokevirtual 88, 3) := by decide +kernel
theorem dX7_sets_49 : decode cX7_sets 49 = .ok (.aload_n 0, 1) := by decide +kernel
theorem dX7_sets_50 : decode cX7_sets 50 = .ok (.iload_n 1, 1) := by decide +kernel
theorem dX7_sets_51 : decode cX7_sets 51 = .ok (.iload_n 2, 1) := by decide +kernel
theorem dX7_sets_52 : decode cX7_sets 52 = .ok (.invokevirtual 108, 3) := by decide +kernel
theorem dX7_sets_55 : decode cX7_sets 55 = .ok (.istore 4, 2) := by decide +kernel
theorem dX7_sets_57 : decode cX7_sets 57 = .ok (.aload_n 0, 1) := by decide +kernel
theorem dX7_sets_58 : decode cX7_sets 58 = .ok (.getfield 20, 3) := by decide +kernel
theorem dX7_sets_61 : decode cX7_sets 61 = .ok (.iload_n 1, 1) := by decide +kernel
theorem dX7_sets_62 : decode cX7_sets 62 = .ok (.iload_n 2, 1) := by decide +kernel
theorem dX7_sets_63 : decode cX7_sets 63 = .ok (.ifCond .ne 7, 3) := by decide +kernel
theorem dX7_sets_66 : decode cX7_sets 66 = .ok (.iload_n 3, 1) := by decide +kernel
theorem dX7_sets_67 : decode cX7_sets 67 = .ok (.goto 9, 3) := by decide +kernel
theorem dX7_sets_70 : decode cX7_sets 70 = .ok (.aload_n 0, 1) := by decide +kernel
theorem dX7_sets_71 : decode cX7_sets 71 = .ok (.getfield 20, 3) := by decide +kernel
theorem dX7_sets_74 : decode cX7_sets 74 = .ok (.iload_n 1, 1) := by decide +kernel
theorem dX7_sets_75 : decode cX7_sets 75 = .ok (.iaload, 1) := by decide +kernel
theorem dX7_sets_76 : decode cX7_sets 76 = .ok (.iastore, 1) := by decide +kernel
theorem dX7_sets_77 : decode cX7_sets 77 = .ok (.aload_n 0, 1) := by decide +kernel
theorem dX7_sets_78 : decode cX7_sets 78 = .ok (.getfield 23, 3) := by decide +kernel
theorem dX7_sets_81 : decode cX7_sets 81 = .ok (.iload_n 1, 1) := by decide +kernel
theorem dX7_sets_82 : decode cX7_sets 82 = .ok (.iload_n 2, 1) := by decide +kernel
theorem dX7_sets_83 : decode cX7_sets 83 = .ok (.iconst 1, 1) := by decide +kernel
theorem dX7_sets_84 : decode cX7_sets 84 = .ok (.if_icmp .ne 7, 3) := by decide +kernel
theorem dX7_sets_87 : decode cX7_sets 87 = .ok (.iload_n 3, 1) := by decide +kernel
theorem dX7_sets_88 : decode cX7_sets 88 = .ok (.goto 9, 3) := by decide +kernel
theorem dX7_sets_91 : decode cX7_sets 91 = .ok (.aload_n 0, 1) := by decide +kernel
theorem dX7_sets_92 : decode cX7_sets 92 = .ok (.getfield 23, 3) := by decide +kernel
theorem dX7_sets_95 : decode cX7_sets 95 = .ok (.iload_n 1, 1) := by decide +kernel
theorem dX7_sets_96 : decode cX7_sets 96 = .ok (.iaload, 1) := by decide +kernel
theorem dX7_sets_97 : decode cX7_sets 97 = .ok (.iastore, 1) := by decide +kernel
theorem dX7_sets_98 : decode cX7_sets 98 = .ok (.aload_n 0, 1) := by decide +kernel
theorem dX7_sets_99 : decode cX7_sets 99 = .ok (.getfield 26, 3) := by decide +kernel
theorem dX7_sets_102 : decode cX7_sets 102 = .ok (.iload_n 1, 1) := by decide +kernel
theorem dX7_sets_103 : decode cX7_sets 103 = .ok (.iload_n 2, 1) := by decide +kernel
theorem dX7_sets_104 : decode cX7_sets 104 = .ok (.iconst 2, 1) := by decide +kernel
theorem dX7_sets_105 : decode cX7_sets 105 = .ok (.if_icmp .ne 7, 3) := by decide +kernel
theorem dX7_sets_108 : decode cX7_sets 108 = .ok (.iload_n 3, 1) := by decide +kernel
theorem dX7_sets_109 : decode cX7_sets 109 = .ok (.goto 9, 3) := by decide +kernel
theorem dX7_sets_112 : decode cX7_sets 112 = .ok (.aload_n 0, 1) := by decide +kernel
theorem dX7_sets_113 : decode cX7_sets 113 = .ok (.getfield 26, 3) := by decide +kernel
theorem dX7_sets_116 : decode cX7_sets 116 = .ok (.iload_n 1, 1) := by decide +kernel
theorem dX7_sets_117 : decode cX7_sets 117 = .ok (.iaload, 1) := by decide +kernel
theorem dX7_sets_118 : decode cX7_sets 118 = .ok (.iastore, 1) := by decide +kernel
theorem dX7_sets_119 : decode cX7_sets 119 = .ok (.aload_n 0, 1) := by decide +kernel
theorem dX7_sets_120 : decode cX7_sets 120 = .ok (.getfield 29, 3) := by decide +kernel
theorem dX7_sets_123 : decode cX7_sets 123 = .ok (.iload_n 1, 1) := by decide +kernel
theorem dX7_sets_124 : decode cX7_sets 124 = .ok (.iload_n 2, 1) := by decide +kernel
theorem dX7_sets_125 : decode cX7_sets 125 = .ok (.iconst 3, 1) := by decide +kernel
theorem dX7_sets_126 : decode cX7_sets 126 = .ok (.if_icmp .ne 7, 3) := by decide +kernel
theorem dX7_sets_129 : decode cX7_sets 129 = .ok (.iload_n 3, 1) := by decide +kernel
theorem dX7_sets_130 : decode cX7_sets 130 = .ok (.goto 9, 3) := by decide +kernel
theorem dX7_sets_133 : decode cX7_sets 133 = .ok (.aload_n 0, 1) := by decide +kernel
theorem dX7_sets_134 : decode cX7_sets 134 = .ok (.getfield 29, 3) := by decide +kernel
theorem dX7_sets_137 : decode cX7_sets 137 = .ok (.iload_n 1, 1) := by decide +kernel
theorem dX7_sets_138 : decode cX7_sets 138 = .ok (.iaload, 1) := by decide +kernel
theorem dX7_sets_139 : decode cX7_sets 139 = .ok (.iastore, 1) := by decide +kernel
theorem dX7_sets_140 : decode cX7_sets 140 = .ok (.iload 4, 2) := by decide +kernel
theorem dX7_sets_142 : decode cX7_sets 142 = .ok (.ireturn, 1) := by decide +kernel
theorem dX7_rules_0 : decode cX7_rules 0 = .ok (.iload_n 1, 1) := by decide +kernel
theorem dX7_rules_1 : decode cX7_rules 1 = .ok (.iconst 0, 1) := by decide +kernel
theorem dX7_rules_2 : decode cX7_rules 2 = .ok (.iconst 1, 1) := by decide +kernel
theorem dX7_rules_3 : decode cX7_rules 3 = .ok (.invokestatic 72, 3) := by decide +kernel
theorem dX7_rules_6 : decode cX7_rules 6 = .ok (.ifCond .eq 20, 3) := by decide +kernel
theorem dX7_rules_9 : decode cX7_rules 9 = .ok (.iload_n 2, 1) := by decide +kernel
theorem dX7_rules_10 : decode cX7_rules 10 = .ok (.iconst 0, 1) := by decide +kernel
theorem dX7_rules_11 : decode cX7_rules 11 = .ok (.iload_n 1, 1) := by decide +kernel
theorem dX7_rules_12 : decode cX7_rules 12 = .ok (.ifCond .ne 7, 3) := by decide +kernel
theorem dX7_rules_15 : decode cX7_rules 15 = .ok (.iconst 1, 1) := by decide +kernel
theorem dX7_rules_16 : decode cX7_rules 16 = .ok (.goto 4, 3) := by decide +kernel
theorem dX7_rules_19 : decode cX7_rules 19 = .ok (.iconst 3, 1) := by decide +kernel
theorem dX7_rules_20 : decode cX7_rules 20 = .ok (.invokestatic 72, 3) := by decide +kernel
theorem dX7_rules_23 : decode cX7_rules 23 = .ok (.ifCond .ne 8, 3) := by decide +kernel
theorem dX7_rules_26 : decode cX7_rules 26 = .ok (.aload_n 0, 1) := by decide +kernel
theorem dX7_rules_27 : decode cX7_rules 27 = .ok (.invokevirtual 85, 3) := by decide +kernel
theorem dX7_rules_30 : decode cX7_rules 30 = .ok (.ireturn, 1) := by decide +kernel
theorem dX7_rules_31 : decode cX7_rules 31 = .ok (.aload_n 0, 1) := by decide +kernel
theorem dX7_rules_32 : decode cX7_rules 32 = .ok (.invokevirtual 88, 3) := by decide +kernel
theorem dX7_rules_35 : decode cX7_rules 35 = .ok (.aload_n 0, 1) := by decide +kernel
theorem dX7_rules_36 : decode cX7_rules 36 = .ok (.getfield 17, 3) := by decide +kernel
theorem dX7_rules_39 : decode cX7_rules 39 = .ok (.iload_n 1, 1) := by decide +kernel
theorem dX7_rules_40 : decode cX7_rules 40 = .ok (.iaload, 1) := by decide +kernel
theorem dX7_rules_41 : decode cX7_rules 41 = .ok (.istore_n 3, 1) := by decide +kernel
theorem dX7_rules_42 : decode cX7_rules 42 = .ok (.aload_n 0, 1) := by decide +kernel
theorem dX7_rules_43 : decode cX7_rules 43 = .ok (.getfield 17, 3) := by decide +kernel
theorem dX7_rules_46 : decode cX7_rules 46 = .ok (.iload_n 1, 1) := by decide +kernel
theorem dX7_rules_47 : decode cX7_rules 47 = .ok (.iload_n 2, 1) := by decide +kernel
theorem dX7_rules_48 : decode cX7_rules 48 = .ok (.iastore, 1) := by decide +kernel
theorem dX7_rules_49 : decode cX7_rules 49 = .ok (.iload_n 3, 1) := by decide +kernel
theorem dX7_rules_50 : decode cX7_rules 50 = .ok (.ireturn, 1) := by decide +kernel
theorem dX7_empties_0 : decode cX7_empties 0 = .ok (.aload_n 0, 1) := by decide +kernel
theorem dX7_empties_1 : decode cX7_empties 1 = .ok (.invokevirtual 88, 3) := by decide +kernel
theorem dX7_empties_4 : decode cX7_empties 4 = .ok (.aload_n 0, 1) := by decide +kernel
theorem dX7_empties_5 : decode cX7_empties 5 = .ok (.getfield 76, 3) := by decide +kernel
theorem dX7_empties_8 : decode cX7_empties 8 = .ok (.istore_n 1, 1) := by decide +kernel
theorem dX7_empties_9 : decode cX7_empties 9 = .ok (.aload_n 0, 1) := by decide +kernel
theorem dX7_empties_10 : decode cX7_empties 10 = .ok (.iconst 0, 1) := by decide +kernel
theorem dX7_empties_11 : decode cX7_empties 11 = .ok (.putfield 76, 3) := by decide +kernel
theorem dX7_empties_14 : decode cX7_empties 14 = .ok (.iload_n 1, 1) := by decide +kernel
theorem dX7_empties_15 : decode cX7_empties 15 = .ok (.ireturn, 1) := by decide +kernel
theorem dX7_turned_0 : decode cX7_turned 0 = .ok (.iconst 0, 1) := by decide +kernel
theorem dX7_turned_1 : decode cX7_turned 1 = .ok (.istore_n 2, 1) := by decide +kernel
theorem dX7_turned_2 : decode cX7_turned 2 = .ok (.iconst 0, 1) := by decide +kernel
theorem dX7_turned_3 : decode cX7_turned 3 = .ok (.istore_n 3, 1) := by decide +kernel
theorem dX7_turned_4 : decode cX7_turned 4 = .ok (.iload_n 3, 1) := by decide +kernel
theorem dX7_turned_5 : decode cX7_turned 5 = .ok (.aload_n 0, 1) := by decide +kernel
theorem dX7_turned_6 : decode cX7_turned 6 = .ok (.getfield 13, 3) := by decide +kernel
theorem dX7_turned_9 : decode cX7_turned 9 = .ok (.if_icmp .ge 26, 3) := by decide +kernel
theorem dX7_turned_12 : decode cX7_turned 12 = .ok (.iload_n 2, 1) := by decide +kernel
theorem dX7_turned_13 : decode cX7_turned 13 = .ok (.iload_n 1, 1) := by decide +kernel
theorem dX7_turned_14 : decode cX7_turned 14 = .ok (.iload_n 3, 1) := by decide +kernel
theorem dX7_turned_15 : decode cX7_turned 15 = .ok (.ishr, 1) := by decide +kernel
theorem dX7_turned_16 : decode cX7_turned 16 = .ok (.iconst 1, 1) := by decide +kernel
theorem dX7_turned_17 : decode cX7_turned 17 = .ok (.iand, 1) := by decide +kernel
theorem dX7_turned_18 : decode cX7_turned 18 = .ok (.aload_n 0, 1) := by decide +kernel
theorem dX7_turned_19 : decode cX7_turned 19 = .ok (.getfield 13, 3) := by decide +kernel
theorem dX7_turned_22 : decode cX7_turned 22 = .ok (.iconst 1, 1) := by decide +kernel
theorem dX7_turned_23 : decode cX7_turned 23 = .ok (.isub, 1) := by decide +kernel
theorem dX7_turned_24 : decode cX7_turned 24 = .ok (.iload_n 3, 1) := by decide +kernel
theorem dX7_turned_25 : decode cX7_turned 25 = .ok (.isub, 1) := by decide +kernel
theorem dX7_turned_26 : decode cX7_turned 26 = .ok (.ishl, 1) := by decide +kernel
theorem dX7_turned_27 : decode cX7_turned 27 = .ok (.ior, 1) := by decide +kernel
theorem dX7_turned_28 : decode cX7_turned 28 = .ok (.istore_n 2, 1) := by decide +kernel
theorem dX7_turned_29 : decode cX7_turned 29 = .ok (.iinc 3 1, 3) := by decide +kernel
theorem dX7_turned_32 : decode cX7_turned 32 = .ok (.goto (-28), 3) := by decide +kernel
theorem dX7_turned_35 : decode cX7_turned 35 = .ok (.iload_n 2, 1) := by decide +kernel
theorem dX7_turned_36 : decode cX7_turned 36 = .ok (.ireturn, 1) := by decide +kernel
theorem dX7_fills_0 : decode cX7_fills 0 = .ok (.iload_n 1, 1) := by decide +kernel
theorem dX7_fills_1 : decode cX7_fills 1 = .ok (.iconst 0, 1) := by decide +kernel
theorem dX7_fills_2 : decode cX7_fills 2 = .ok (.iconst 3, 1) := by decide +kernel
theorem dX7_fills_3 : decode cX7_fills 3 = .ok (.invokestatic 72, 3) := by decide +kernel
theorem dX7_fills_6 : decode cX7_fills 6 = .ok (.ifCond .eq 13, 3) := by decide +kernel
theorem dX7_fills_9 : decode cX7_fills 9 = .ok (.iload_n 2, 1) := by decide +kernel
theorem dX7_fills_10 : decode cX7_fills 10 = .ok (.iconst 0, 1) := by decide +kernel
theorem dX7_fills_11 : decode cX7_fills 11 = .ok (.ldc 112, 2) := by decide +kernel
theorem dX7_fills_13 : decode cX7_fills 13 = .ok (.invokestatic 72, 3) := by decide +kernel
theorem dX7_fills_16 : decode cX7_fills 16 = .ok (.ifCond .ne 8, 3) := by decide +kernel
theorem dX7_fills_19 : decode cX7_fills 19 = .ok (.aload_n 0, 1) := by decide +kernel
theorem dX7_fills_20 : decode cX7_fills 20 = .ok (.invokevirtual 85, 3) := by decide +kernel
theorem dX7_fills_23 : decode cX7_fills 23 = .ok (.ireturn, 1) := by decide +kernel
theorem dX7_fills_24 : decode cX7_fills 24 = .ok (.aload_n 0, 1) := by decide +kernel
theorem dX7_fills_25 : decode cX7_fills 25 = .ok (.invokevirtual 88, 3) := by decide +kernel
theorem dX7_fills_28 : decode cX7_fills 28 = .ok (.aload_n 0, 1) := by decide +kernel
theorem dX7_fills_29 : decode cX7_fills 29 = .ok (.invokevirtual 68, 3) := by decide +kernel
theorem dX7_fills_32 : decode cX7_fills 32 = .ok (.istore_n 3, 1) := by decide +kernel
theorem dX7_fills_33 : decode cX7_fills 33 = .ok (.aload_n 0, 1) := by decide +kernel
theorem dX7_fills_34 : decode cX7_fills 34 = .ok (.iconst 0, 1) := by decide +kernel
theorem dX7_fills_35 : decode cX7_fills 35 = .ok (.putfield 76, 3) := by decide +kernel
theorem dX7_fills_38 : decode cX7_fills 38 = .ok (.iload_n 2, 1) := by decide +kernel
theorem dX7_fills_39 : decode cX7_fills 39 = .ok (.i2l, 1) := by decide +kernel
theorem dX7_fills_40 : decode cX7_fills 40 = .ok (.lstore 4, 2) := by decide +kernel
theorem dX7_fills_42 : decode cX7_fills 42 = .ok (.iconst 0, 1) := by decide +kernel
theorem dX7_fills_43 : decode cX7_fills 43 = .ok (.istore 6, 2) := by decide +kernel
theorem dX7_fills_45 : decode cX7_fills 45 = .ok (.iload 6, 2) := by decide +kernel
theorem dX7_fills_47 : decode cX7_fills 47 = .ok (.iload_n 3, 1) := by decide +kernel
theorem dX7_fills_48 : decode cX7_fills 48 = .ok (.if_icmp .ge 107, 3) := by decide +kernel
theorem dX7_fills_51 : decode cX7_fills 51 = .ok (.lload 4, 2) := by decide +kernel
theorem dX7_fills_53 : decode cX7_fills 53 = .ok (.ldc2_w 113, 3) := by decide +kernel
theorem dX7_fills_56 : decode cX7_fills 56 = .ok (.lmul, 1) := by decide +kernel
theorem dX7_fills_57 : decode cX7_fills 57 = .ok (.ldc2_w 115, 3) := by decide +kernel
theorem dX7_fills_60 : decode cX7_fills 60 = .ok (.ladd, 1) := by decide +kernel
theorem dX7_fills_61 : decode cX7_fills 61 = .ok (.ldc2_w 117, 3) := by decide +kernel
theorem dX7_fills_64 : decode cX7_fills 64 = .ok (.lrem, 1) := by decide +kernel
theorem dX7_fills_65 : decode cX7_fills 65 = .ok (.lstore 4, 2) := by decide +kernel
theorem dX7_fills_67 : decode cX7_fills 67 = .ok (.iload_n 1, 1) := by decide +kernel
theorem dX7_fills_68 : decode cX7_fills 68 = .ok (.ifCond .ne 12, 3) := by decide +kernel
theorem dX7_fills_71 : decode cX7_fills 71 = .ok (.iload_n 3, 1) := by decide +kernel
theorem dX7_fills_72 : decode cX7_fills 72 = .ok (.iconst 1, 1) := by decide +kernel
theorem dX7_fills_73 : decode cX7_fills 73 = .ok (.isub, 1) := by decide +kernel
theorem dX7_fills_74 : decode cX7_fills 74 = .ok (.iload 6, 2) := by decide +kernel
theorem dX7_fills_76 : decode cX7_fills 76 = .ok (.isub, 1) := by decide +kernel
theorem dX7_fills_77 : decode cX7_fills 77 = .ok (.goto 41, 3) := by decide +kernel
theorem dX7_fills_80 : decode cX7_fills 80 = .ok (.iload_n 1, 1) := by decide +kernel
theorem dX7_fills_81 : decode cX7_fills 81 = .ok (.iconst 1, 1) := by decide +kernel
theorem dX7_fills_82 : decode cX7_fills 82 = .ok (.if_icmp .ne 12, 3) := by decide +kernel
theorem dX7_fills_85 : decode cX7_fills 85 = .ok (.aload_n 0, 1) := by decide +kernel
theorem dX7_fills_86 : decode cX7_fills 86 = .ok (.iload 6, 2) := by decide +kernel
theorem dX7_fills_88 : decode cX7_fills 88 = .ok (.invokevirtual 119, 3) := by decide +kernel
theorem dX7_fills_91 : decode cX7_fills 91 = .ok (.goto 27, 3) := by decide +kernel
theorem dX7_fills_94 : decode cX7_fills 94 = .ok (.iload_n 1, 1) := by decide +kernel
theorem dX7_fills_95 : decode cX7_fills 95 = .ok (.iconst 2, 1) := by decide +kernel
theorem dX7_fills_96 : decode cX7_fills 96 = .ok (.if_icmp .ne 12, 3) := by decide +kernel
theorem dX7_fills_99 : decode cX7_fills 99 = .ok (.iload 6, 2) := by decide +kernel
theorem dX7_fills_101 : decode cX7_fills 101 = .ok (.iconst 1, 1) := by decide +kernel
theorem dX7_fills_102 : decode cX7_fills 102 = .ok (.iadd, 1) := by decide +kernel
theorem dX7_fills_103 : decode cX7_fills 103 = .ok (.iload_n 3, 1) := by decide +kernel
theorem dX7_fills_104 : decode cX7_fills 104 = .ok (.irem, 1) := by decide +kernel
theorem dX7_fills_105 : decode cX7_fills 105 = .ok (.goto 13, 3) := by decide +kernel
theorem dX7_fills_108 : decode cX7_fills 108 = .ok (.lload 4, 2) := by decide +kernel
theorem dX7_fills_110 : decode cX7_fills 110 = .ok (.ldc2_w 123, 3) := by decide +kernel
theorem dX7_fills_113 : decode cX7_fills 113 = .ok (.ldiv, 1) := by decide +kernel
theorem dX7_fills_114 : decode cX7_fills 114 = .ok (.iload_n 3, 1) := by decide +kernel
theorem dX7_fills_115 : decode cX7_fills 115 = .ok (.i2l, 1) := by decide +kernel
theorem dX7_fills_116 : decode cX7_fills 116 = .ok (.lrem, 1) := by decide +kernel
theorem dX7_fills_117 : decode cX7_fills 117 = .ok (.l2i, 1) := by decide +kernel
theorem dX7_fills_118 : decode cX7_fills 118 = .ok (.istore 7, 2) := by decide +kernel
theorem dX7_fills_120 : decode cX7_fills 120 = .ok (.aload_n 0, 1) := by decide +kernel
theorem dX7_fills_121 : decode cX7_fills 121 = .ok (.iload 6, 2) := by decide +kernel
theorem dX7_fills_123 : decode cX7_fills 123 = .ok (.iload 7, 2) := by decide +kernel
theorem dX7_fills_125 : decode cX7_fills 125 = .ok (.lload 4, 2) := by decide +kernel
theorem dX7_fills_127 : decode cX7_fills 127 = .ok (.ldc2_w 125, 3) := by decide +kernel
theorem dX7_fills_130 : decode cX7_fills 130 = .ok (.ldiv, 1) := by decide +kernel
theorem dX7_fills_131 : decode cX7_fills 131 = .ok (.iload_n 3, 1) := by decide +kernel
theorem dX7_fills_132 : decode cX7_fills 132 = .ok (.i2l, 1) := by decide +kernel
theorem dX7_fills_133 : decode cX7_fills 133 = .ok (.lrem, 1) := by decide +kernel
theorem dX7_fills_134 : decode cX7_fills 134 = .ok (.l2i, 1) := by decide +kernel
theorem dX7_fills_135 : decode cX7_fills 135 = .ok (.lload 4, 2) := by decide +kernel
theorem dX7_fills_137 : decode cX7_fills 137 = .ok (.ldc2_w 127, 3) := by decide +kernel
theorem dX7_fills_140 : decode cX7_fills 140 = .ok (.ldiv, 1) := by decide +kernel
theorem dX7_fills_141 : decode cX7_fills 141 = .ok (.ldc2_w 129, 3) := by decide +kernel
theorem dX7_fills_144 : decode cX7_fills 144 = .ok (.lrem, 1) := by decide +kernel
theorem dX7_fills_145 : decode cX7_fills 145 = .ok (.l2i, 1) := by decide +kernel
theorem dX7_fills_146 : decode cX7_fills 146 = .ok (.invokevirtual 101, 3) := by decide +kernel
theorem dX7_fills_149 : decode cX7_fills 149 = .ok (.iinc 6 1, 3) := by decide +kernel
theorem dX7_fills_152 : decode cX7_fills 152 = .ok (.goto (-107), 3) := by decide +kernel
theorem dX7_fills_155 : decode cX7_fills 155 = .ok (.aload_n 0, 1) := by decide +kernel
theorem dX7_fills_156 : decode cX7_fills 156 = .ok (.getfield 76, 3) := by decide +kernel
theorem dX7_fills_159 : decode cX7_fills 159 = .ok (.ireturn, 1) := by decide +kernel
theorem dX7_comesLeg_0 : decode cX7_comesLeg 0 = .ok (.iload_n 2, 1) := by decide +kernel
theorem dX7_comesLeg_1 : decode cX7_comesLeg 1 = .ok (.istore 4, 2) := by decide +kernel
theorem dX7_comesLeg_3 : decode cX7_comesLeg 3 = .ok (.iconst 0, 1) := by decide +kernel
theorem dX7_comesLeg_4 : decode cX7_comesLeg 4 = .ok (.istore 5, 2) := by decide +kernel
theorem dX7_comesLeg_6 : decode cX7_comesLeg 6 = .ok (.iload 5, 2) := by decide +kernel
theorem dX7_comesLeg_8 : decode cX7_comesLeg 8 = .ok (.aload_n 0, 1) := by decide +kernel
theorem dX7_comesLeg_9 : decode cX7_comesLeg 9 = .ok (.getfield 13, 3) := by decide +kernel
theorem dX7_comesLeg_12 : decode cX7_comesLeg 12 = .ok (.if_icmp .ge 84, 3) := by decide +kernel
theorem dX7_comesLeg_15 : decode cX7_comesLeg 15 = .ok (.aload_n 0, 1) := by decide +kernel
theorem dX7_comesLeg_16 : decode cX7_comesLeg 16 = .ok (.getfield 17, 3) := by decide +kernel
theorem dX7_comesLeg_19 : decode cX7_comesLeg 19 = .ok (.iconst 0, 1) := by decide +kernel
theorem dX7_comesLeg_20 : decode cX7_comesLeg 20 = .ok (.iaload, 1) := by decide +kernel
theorem dX7_comesLeg_21 : decode cX7_comesLeg 21 = .ok (.ifCond .ne 8, 3) := by decide +kernel
theorem dX7_comesLeg_24 : decode cX7_comesLeg 24 = .ok (.iload 5, 2) := by decide +kernel
theorem dX7_comesLeg_26 : decode cX7_comesLeg 26 = .ok (.goto 12, 3) := by decide +kernel
theorem dX7_comesLeg_29 : decode cX7_comesLeg 29 = .ok (.aload_n 0, 1) := by decide +kernel
theorem dX7_comesLeg_30 : decode cX7_comesLeg 30 = .ok (.getfield 13, 3) := by decide +kernel
theorem dX7_comesLeg_33 : decode cX7_comesLeg 33 = .ok (.iconst 1, 1) := by decide +kernel
theorem dX7_comesLeg_34 : decode cX7_comesLeg 34 = .ok (.isub, 1) := by decide +kernel
theorem dX7_comesLeg_35 : decode cX7_comesLeg 35 = .ok (.iload 5, 2) := by decide +kernel
theorem dX7_comesLeg_37 : decode cX7_comesLeg 37 = .ok (.isub, 1) := by decide +kernel
theorem dX7_comesLeg_38 : decode cX7_comesLeg 38 = .ok (.istore 6, 2) := by decide +kernel
theorem dX7_comesLeg_40 : decode cX7_comesLeg 40 = .ok (.iload 4, 2) := by decide +kernel
theorem dX7_comesLeg_42 : decode cX7_comesLeg 42 = .ok (.iload_n 3, 1) := by decide +kernel
theorem dX7_comesLeg_43 : decode cX7_comesLeg 43 = .ok (.ixor, 1) := by decide +kernel
theorem dX7_comesLeg_44 : decode cX7_comesLeg 44 = .ok (.iload 6, 2) := by decide +kernel
theorem dX7_comesLeg_46 : decode cX7_comesLeg 46 = .ok (.ishr, 1) := by decide +kernel
theorem dX7_comesLeg_47 : decode cX7_comesLeg 47 = .ok (.iconst 1, 1) := by decide +kernel
theorem dX7_comesLeg_48 : decode cX7_comesLeg 48 = .ok (.iand, 1) := by decide +kernel
theorem dX7_comesLeg_49 : decode cX7_comesLeg 49 = .ok (.iconst 1, 1) := by decide +kernel
theorem dX7_comesLeg_50 : decode cX7_comesLeg 50 = .ok (.if_icmp .ne 40, 3) := by decide +kernel
theorem dX7_comesLeg_53 : decode cX7_comesLeg 53 = .ok (.iload 4, 2) := by decide +kernel
theorem dX7_comesLeg_55 : decode cX7_comesLeg 55 = .ok (.iconst 1, 1) := by decide +kernel
theorem dX7_comesLeg_56 : decode cX7_comesLeg 56 = .ok (.iload 6, 2) := by decide +kernel
theorem dX7_comesLeg_58 : decode cX7_comesLeg 58 = .ok (.ishl, 1) := by decide +kernel
theorem dX7_comesLeg_59 : decode cX7_comesLeg 59 = .ok (.ixor, 1) := by decide +kernel
theorem dX7_comesLeg_60 : decode cX7_comesLeg 60 = .ok (.istore 4, 2) := by decide +kernel
theorem dX7_comesLeg_62 : decode cX7_comesLeg 62 = .ok (.aload_n 0, 1) := by decide +kernel
theorem dX7_comesLeg_63 : decode cX7_comesLeg 63 = .ok (.getfield 35, 3) := by decide +kernel
theorem dX7_comesLeg_66 : decode cX7_comesLeg 66 = .ok (.iload_n 1, 1) := by decide +kernel
theorem dX7_comesLeg_67 : decode cX7_comesLeg 67 = .ok (.dup2, 1) := by decide +kernel
theorem dX7_comesLeg_68 : decode cX7_comesLeg 68 = .ok (.iaload, 1) := by decide +kernel
theorem dX7_comesLeg_69 : decode cX7_comesLeg 69 = .ok (.iconst 1, 1) := by decide +kernel
theorem dX7_comesLeg_70 : decode cX7_comesLeg 70 = .ok (.iadd, 1) := by decide +kernel
theorem dX7_comesLeg_71 : decode cX7_comesLeg 71 = .ok (.iastore, 1) := by decide +kernel
theorem dX7_comesLeg_72 : decode cX7_comesLeg 72 = .ok (.aload_n 0, 1) := by decide +kernel
theorem dX7_comesLeg_73 : decode cX7_comesLeg 73 = .ok (.getfield 41, 3) := by decide +kernel
theorem dX7_comesLeg_76 : decode cX7_comesLeg 76 = .ok (.bipush 9, 2) := by decide +kernel
theorem dX7_comesLeg_78 : decode cX7_comesLeg 78 = .ok (.iload_n 1, 1) := by decide +kernel
theorem dX7_comesLeg_79 : decode cX7_comesLeg 79 = .ok (.imul, 1) := by decide +kernel
theorem dX7_comesLeg_80 : decode cX7_comesLeg 80 = .ok (.aload_n 0, 1) := by decide +kernel
theorem dX7_comesLeg_81 : decode cX7_comesLeg 81 = .ok (.getfield 35, 3) := by decide +kernel
theorem dX7_comesLeg_84 : decode cX7_comesLeg 84 = .ok (.iload_n 1, 1) := by decide +kernel
theorem dX7_comesLeg_85 : decode cX7_comesLeg 85 = .ok (.iaload, 1) := by decide +kernel
theorem dX7_comesLeg_86 : decode cX7_comesLeg 86 = .ok (.iadd, 1) := by decide +kernel
theorem dX7_comesLeg_87 : decode cX7_comesLeg 87 = .ok (.iload 4, 2) := by decide +kernel
theorem dX7_comesLeg_89 : decode cX7_comesLeg 89 = .ok (.iastore, 1) := by decide +kernel
theorem dX7_comesLeg_90 : decode cX7_comesLeg 90 = .ok (.iinc 5 1, 3) := by decide +kernel
theorem dX7_comesLeg_93 : decode cX7_comesLeg 93 = .ok (.goto (-87), 3) := by decide +kernel
theorem dX7_comesLeg_96 : decode cX7_comesLeg 96 = .ok (.return_, 1) := by decide +kernel
theorem dX7_setWay_0 : decode cX7_setWay 0 = .ok (.aload_n 0, 1) := by decide +kernel
theorem dX7_setWay_1 : decode cX7_setWay 1 = .ok (.getfield 35, 3) := by decide +kernel
theorem dX7_setWay_4 : decode cX7_setWay 4 = .ok (.iload_n 1, 1) := by decide +kernel
theorem dX7_setWay_5 : decode cX7_setWay 5 = .ok (.iconst 0, 1) := by decide +kernel
theorem dX7_setWay_6 : decode cX7_setWay 6 = .ok (.iastore, 1) := by decide +kernel
theorem dX7_setWay_7 : decode cX7_setWay 7 = .ok (.aload_n 0, 1) := by decide +kernel
theorem dX7_setWay_8 : decode cX7_setWay 8 = .ok (.getfield 41, 3) := by decide +kernel
theorem dX7_setWay_11 : decode cX7_setWay 11 = .ok (.bipush 9, 2) := by decide +kernel
theorem dX7_setWay_13 : decode cX7_setWay 13 = .ok (.iload_n 1, 1) := by decide +kernel
theorem dX7_setWay_14 : decode cX7_setWay 14 = .ok (.imul, 1) := by decide +kernel
theorem dX7_setWay_15 : decode cX7_setWay 15 = .ok (.aload_n 0, 1) := by decide +kernel
theorem dX7_setWay_16 : decode cX7_setWay 16 = .ok (.getfield 20, 3) := by decide +kernel
theorem dX7_setWay_19 : decode cX7_setWay 19 = .ok (.iload_n 1, 1) := by decide +kernel
theorem dX7_setWay_20 : decode cX7_setWay 20 = .ok (.iaload, 1) := by decide +kernel
theorem dX7_setWay_21 : decode cX7_setWay 21 = .ok (.iastore, 1) := by decide +kernel
theorem dX7_setWay_22 : decode cX7_setWay 22 = .ok (.aload_n 0, 1) := by decide +kernel
theorem dX7_setWay_23 : decode cX7_setWay 23 = .ok (.iload_n 1, 1) := by decide +kernel
theorem dX7_setWay_24 : decode cX7_setWay 24 = .ok (.aload_n 0, 1) := by decide +kernel
theorem dX7_setWay_25 : decode cX7_setWay 25 = .ok (.getfield 20, 3) := by decide +kernel
theorem dX7_setWay_28 : decode cX7_setWay 28 = .ok (.iload_n 1, 1) := by decide +kernel
theorem dX7_setWay_29 : decode cX7_setWay 29 = .ok (.iaload, 1) := by decide +kernel
theorem dX7_setWay_30 : decode cX7_setWay 30 = .ok (.iload_n 2, 1) := by decide +kernel
theorem dX7_setWay_31 : decode cX7_setWay 31 = .ok (.invokevirtual 131, 3) := by decide +kernel
theorem dX7_setWay_34 : decode cX7_setWay 34 = .ok (.aload_n 0, 1) := by decide +kernel
theorem dX7_setWay_35 : decode cX7_setWay 35 = .ok (.getfield 38, 3) := by decide +kernel
theorem dX7_setWay_38 : decode cX7_setWay 38 = .ok (.iload_n 1, 1) := by decide +kernel
theorem dX7_setWay_39 : decode cX7_setWay 39 = .ok (.aload_n 0, 1) := by decide +kernel
theorem dX7_setWay_40 : decode cX7_setWay 40 = .ok (.getfield 35, 3) := by decide +kernel
theorem dX7_setWay_43 : decode cX7_setWay 43 = .ok (.iload_n 1, 1) := by decide +kernel
theorem dX7_setWay_44 : decode cX7_setWay 44 = .ok (.iaload, 1) := by decide +kernel
theorem dX7_setWay_45 : decode cX7_setWay 45 = .ok (.iastore, 1) := by decide +kernel
theorem dX7_setWay_46 : decode cX7_setWay 46 = .ok (.aload_n 0, 1) := by decide +kernel
theorem dX7_setWay_47 : decode cX7_setWay 47 = .ok (.iload_n 1, 1) := by decide +kernel
theorem dX7_setWay_48 : decode cX7_setWay 48 = .ok (.iload_n 2, 1) := by decide +kernel
theorem dX7_setWay_49 : decode cX7_setWay 49 = .ok (.aload_n 0, 1) := by decide +kernel
theorem dX7_setWay_50 : decode cX7_setWay 50 = .ok (.getfield 23, 3) := by decide +kernel
theorem dX7_setWay_53 : decode cX7_setWay 53 = .ok (.iload_n 1, 1) := by decide +kernel
theorem dX7_setWay_54 : decode cX7_setWay 54 = .ok (.iaload, 1) := by decide +kernel
theorem dX7_setWay_55 : decode cX7_setWay 55 = .ok (.invokevirtual 131, 3) := by decide +kernel
theorem dX7_setWay_58 : decode cX7_setWay 58 = .ok (.return_, 1) := by decide +kernel
theorem dX7_setWays_0 : decode cX7_setWays 0 = .ok (.iconst 0, 1) := by decide +kernel
theorem dX7_setWays_1 : decode cX7_setWays 1 = .ok (.istore_n 1, 1) := by decide +kernel
theorem dX7_setWays_2 : decode cX7_setWays 2 = .ok (.iload_n 1, 1) := by decide +kernel
theorem dX7_setWays_3 : decode cX7_setWays 3 = .ok (.aload_n 0, 1) := by decide +kernel
theorem dX7_setWays_4 : decode cX7_setWays 4 = .ok (.getfield 76, 3) := by decide +kernel
theorem dX7_setWays_7 : decode cX7_setWays 7 = .ok (.if_icmp .ge 20, 3) := by decide +kernel
theorem dX7_setWays_10 : decode cX7_setWays 10 = .ok (.aload_n 0, 1) := by decide +kernel
theorem dX7_setWays_11 : decode cX7_setWays 11 = .ok (.iload_n 1, 1) := by decide +kernel
theorem dX7_setWays_12 : decode cX7_setWays 12 = .ok (.aload_n 0, 1) := by decide +kernel
theorem dX7_setWays_13 : decode cX7_setWays 13 = .ok (.getfield 26, 3) := by decide +kernel
theorem dX7_setWays_16 : decode cX7_setWays 16 = .ok (.iload_n 1, 1) := by decide +kernel
theorem dX7_setWays_17 : decode cX7_setWays 17 = .ok (.iaload, 1) := by decide +kernel
theorem dX7_setWays_18 : decode cX7_setWays 18 = .ok (.invokevirtual 135, 3) := by decide +kernel
theorem dX7_setWays_21 : decode cX7_setWays 21 = .ok (.iinc 1 1, 3) := by decide +kernel
theorem dX7_setWays_24 : decode cX7_setWays 24 = .ok (.goto (-22), 3) := by decide +kernel
theorem dX7_setWays_27 : decode cX7_setWays 27 = .ok (.return_, 1) := by decide +kernel
theorem dX7_edgeOf_0 : decode cX7_edgeOf 0 = .ok (.aload_n 0, 1) := by decide +kernel
theorem dX7_edgeOf_1 : decode cX7_edgeOf 1 = .ok (.getfield 41, 3) := by decide +kernel
theorem dX7_edgeOf_4 : decode cX7_edgeOf 4 = .ok (.bipush 9, 2) := by decide +kernel
theorem dX7_edgeOf_6 : decode cX7_edgeOf 6 = .ok (.iload_n 1, 1) := by decide +kernel
theorem dX7_edgeOf_7 : decode cX7_edgeOf 7 = .ok (.imul, 1) := by decide +kernel
theorem dX7_edgeOf_8 : decode cX7_edgeOf 8 = .ok (.iload_n 2, 1) := by decide +kernel
theorem dX7_edgeOf_9 : decode cX7_edgeOf 9 = .ok (.iadd, 1) := by decide +kernel
theorem dX7_edgeOf_10 : decode cX7_edgeOf 10 = .ok (.iaload, 1) := by decide +kernel
theorem dX7_edgeOf_11 : decode cX7_edgeOf 11 = .ok (.istore_n 3, 1) := by decide +kernel
theorem dX7_edgeOf_12 : decode cX7_edgeOf 12 = .ok (.iload_n 3, 1) := by decide +kernel
theorem dX7_edgeOf_13 : decode cX7_edgeOf 13 = .ok (.aload_n 0, 1) := by decide +kernel
theorem dX7_edgeOf_14 : decode cX7_edgeOf 14 = .ok (.getfield 41, 3) := by decide +kernel
theorem dX7_edgeOf_17 : decode cX7_edgeOf 17 = .ok (.bipush 9, 2) := by decide +kernel
theorem dX7_edgeOf_19 : decode cX7_edgeOf 19 = .ok (.iload_n 1, 1) := by decide +kernel
theorem dX7_edgeOf_20 : decode cX7_edgeOf 20 = .ok (.imul, 1) := by decide +kernel
theorem dX7_edgeOf_21 : decode cX7_edgeOf 21 = .ok (.iload_n 2, 1) := by decide +kernel
theorem dX7_edgeOf_22 : decode cX7_edgeOf 22 = .ok (.iadd, 1) := by decide +kernel
theorem dX7_edgeOf_23 : decode cX7_edgeOf 23 = .ok (.iconst 1, 1) := by decide +kernel
theorem dX7_edgeOf_24 : decode cX7_edgeOf 24 = .ok (.iadd, 1) := by decide +kernel
theorem dX7_edgeOf_25 : decode cX7_edgeOf 25 = .ok (.iaload, 1) := by decide +kernel
theorem dX7_edgeOf_26 : decode cX7_edgeOf 26 = .ok (.ixor, 1) := by decide +kernel
theorem dX7_edgeOf_27 : decode cX7_edgeOf 27 = .ok (.istore 4, 2) := by decide +kernel
theorem dX7_edgeOf_29 : decode cX7_edgeOf 29 = .ok (.iconst 4, 1) := by decide +kernel
theorem dX7_edgeOf_30 : decode cX7_edgeOf 30 = .ok (.iload_n 3, 1) := by decide +kernel
theorem dX7_edgeOf_31 : decode cX7_edgeOf 31 = .ok (.imul, 1) := by decide +kernel
theorem dX7_edgeOf_32 : decode cX7_edgeOf 32 = .ok (.iload 4, 2) := by decide +kernel
theorem dX7_edgeOf_34 : decode cX7_edgeOf 34 = .ok (.iconst 1, 1) := by decide +kernel
theorem dX7_edgeOf_35 : decode cX7_edgeOf 35 = .ok (.if_icmp .ne 7, 3) := by decide +kernel
theorem dX7_edgeOf_38 : decode cX7_edgeOf 38 = .ok (.iconst 0, 1) := by decide +kernel
theorem dX7_edgeOf_39 : decode cX7_edgeOf 39 = .ok (.goto 24, 3) := by decide +kernel
theorem dX7_edgeOf_42 : decode cX7_edgeOf 42 = .ok (.iload 4, 2) := by decide +kernel
theorem dX7_edgeOf_44 : decode cX7_edgeOf 44 = .ok (.iconst 2, 1) := by decide +kernel
theorem dX7_edgeOf_45 : decode cX7_edgeOf 45 = .ok (.if_icmp .ne 7, 3) := by decide +kernel
theorem dX7_edgeOf_48 : decode cX7_edgeOf 48 = .ok (.iconst 1, 1) := by decide +kernel
theorem dX7_edgeOf_49 : decode cX7_edgeOf 49 = .ok (.goto 14, 3) := by decide +kernel
theorem dX7_edgeOf_52 : decode cX7_edgeOf 52 = .ok (.iload 4, 2) := by decide +kernel
theorem dX7_edgeOf_54 : decode cX7_edgeOf 54 = .ok (.iconst 4, 1) := by decide +kernel
theorem dX7_edgeOf_55 : decode cX7_edgeOf 55 = .ok (.if_icmp .ne 7, 3) := by decide +kernel
theorem dX7_edgeOf_58 : decode cX7_edgeOf 58 = .ok (.iconst 2, 1) := by decide +kernel
theorem dX7_edgeOf_59 : decode cX7_edgeOf 59 = .ok (.goto 4, 3) := by decide +kernel
theorem dX7_edgeOf_62 : decode cX7_edgeOf 62 = .ok (.iconst 3, 1) := by decide +kernel
theorem dX7_edgeOf_63 : decode cX7_edgeOf 63 = .ok (.iadd, 1) := by decide +kernel
theorem dX7_edgeOf_64 : decode cX7_edgeOf 64 = .ok (.ireturn, 1) := by decide +kernel
theorem dX7_uses_0 : decode cX7_uses 0 = .ok (.iconst 0, 1) := by decide +kernel
theorem dX7_uses_1 : decode cX7_uses 1 = .ok (.istore_n 3, 1) := by decide +kernel
theorem dX7_uses_2 : decode cX7_uses 2 = .ok (.iconst 0, 1) := by decide +kernel
theorem dX7_uses_3 : decode cX7_uses 3 = .ok (.istore 4, 2) := by decide +kernel
theorem dX7_uses_5 : decode cX7_uses 5 = .ok (.iload 4, 2) := by decide +kernel
theorem dX7_uses_7 : decode cX7_uses 7 = .ok (.aload_n 0, 1) := by decide +kernel
theorem dX7_uses_8 : decode cX7_uses 8 = .ok (.getfield 35, 3) := by decide +kernel
theorem dX7_uses_11 : decode cX7_uses 11 = .ok (.iload_n 1, 1) := by decide +kernel
theorem dX7_uses_12 : decode cX7_uses 12 = .ok (.iaload, 1) := by decide +kernel
theorem dX7_uses_13 : decode cX7_uses 13 = .ok (.if_icmp .ge 30, 3) := by decide +kernel
theorem dX7_uses_16 : decode cX7_uses 16 = .ok (.iload_n 3, 1) := by decide +kernel
theorem dX7_uses_17 : decode cX7_uses 17 = .ok (.ifCond .ne 14, 3) := by decide +kernel
theorem dX7_uses_20 : decode cX7_uses 20 = .ok (.aload_n 0, 1) := by decide +kernel
theorem dX7_uses_21 : decode cX7_uses 21 = .ok (.iload_n 1, 1) := by decide +kernel
theorem dX7_uses_22 : decode cX7_uses 22 = .ok (.iload 4, 2) := by decide +kernel
theorem dX7_uses_24 : decode cX7_uses 24 = .ok (.invokevirtual 139, 3) := by decide +kernel
theorem dX7_uses_27 : decode cX7_uses 27 = .ok (.iload_n 2, 1) := by decide +kernel
theorem dX7_uses_28 : decode cX7_uses 28 = .ok (.if_icmp .ne 7, 3) := by decide +kernel
theorem dX7_uses_31 : decode cX7_uses 31 = .ok (.iconst 1, 1) := by decide +kernel
theorem dX7_uses_32 : decode cX7_uses 32 = .ok (.goto 4, 3) := by decide +kernel
theorem dX7_uses_35 : decode cX7_uses 35 = .ok (.iconst 0, 1) := by decide +kernel
theorem dX7_uses_36 : decode cX7_uses 36 = .ok (.istore_n 3, 1) := by decide +kernel
theorem dX7_uses_37 : decode cX7_uses 37 = .ok (.iinc 4 1, 3) := by decide +kernel
theorem dX7_uses_40 : decode cX7_uses 40 = .ok (.goto (-35), 3) := by decide +kernel
theorem dX7_uses_43 : decode cX7_uses 43 = .ok (.iload_n 3, 1) := by decide +kernel
theorem dX7_uses_44 : decode cX7_uses 44 = .ok (.ireturn, 1) := by decide +kernel
theorem dX7_metBy_0 : decode cX7_metBy 0 = .ok (.iconst 0, 1) := by decide +kernel
theorem dX7_metBy_1 : decode cX7_metBy 1 = .ok (.istore_n 2, 1) := by decide +kernel
theorem dX7_metBy_2 : decode cX7_metBy 2 = .ok (.iconst 0, 1) := by decide +kernel
theorem dX7_metBy_3 : decode cX7_metBy 3 = .ok (.istore_n 3, 1) := by decide +kernel
theorem dX7_metBy_4 : decode cX7_metBy 4 = .ok (.iload_n 3, 1) := by decide +kernel
theorem dX7_metBy_5 : decode cX7_metBy 5 = .ok (.aload_n 0, 1) := by decide +kernel
theorem dX7_metBy_6 : decode cX7_metBy 6 = .ok (.getfield 76, 3) := by decide +kernel
theorem dX7_metBy_9 : decode cX7_metBy 9 = .ok (.if_icmp .ge 77, 3) := by decide +kernel
theorem dX7_metBy_12 : decode cX7_metBy 12 = .ok (.iconst 0, 1) := by decide +kernel
theorem dX7_metBy_13 : decode cX7_metBy 13 = .ok (.istore 4, 2) := by decide +kernel
theorem dX7_metBy_15 : decode cX7_metBy 15 = .ok (.iconst 0, 1) := by decide +kernel
theorem dX7_metBy_16 : decode cX7_metBy 16 = .ok (.istore 5, 2) := by decide +kernel
theorem dX7_metBy_18 : decode cX7_metBy 18 = .ok (.iload 5, 2) := by decide +kernel
theorem dX7_metBy_20 : decode cX7_metBy 20 = .ok (.aload_n 0, 1) := by decide +kernel
theorem dX7_metBy_21 : decode cX7_metBy 21 = .ok (.getfield 35, 3) := by decide +kernel
theorem dX7_metBy_24 : decode cX7_metBy 24 = .ok (.iload_n 1, 1) := by decide +kernel
theorem dX7_metBy_25 : decode cX7_metBy 25 = .ok (.iaload, 1) := by decide +kernel
theorem dX7_metBy_26 : decode cX7_metBy 26 = .ok (.if_icmp .ge 36, 3) := by decide +kernel
theorem dX7_metBy_29 : decode cX7_metBy 29 = .ok (.iload 4, 2) := by decide +kernel
theorem dX7_metBy_31 : decode cX7_metBy 31 = .ok (.ifCond .ne 18, 3) := by decide +kernel
theorem dX7_metBy_34 : decode cX7_metBy 34 = .ok (.aload_n 0, 1) := by decide +kernel
theorem dX7_metBy_35 : decode cX7_metBy 35 = .ok (.iload_n 3, 1) := by decide +kernel
theorem dX7_metBy_36 : decode cX7_metBy 36 = .ok (.aload_n 0, 1) := by decide +kernel
theorem dX7_metBy_37 : decode cX7_metBy 37 = .ok (.iload_n 1, 1) := by decide +kernel
theorem dX7_metBy_38 : decode cX7_metBy 38 = .ok (.iload 5, 2) := by decide +kernel
theorem dX7_metBy_40 : decode cX7_metBy 40 = .ok (.invokevirtual 139, 3) := by decide +kernel
theorem dX7_metBy_43 : decode cX7_metBy 43 = .ok (.invokevirtual 142, 3) := by decide +kernel
theorem dX7_metBy_46 : decode cX7_metBy 46 = .ok (.ifCond .eq 7, 3) := by decide +kernel
theorem dX7_metBy_49 : decode cX7_metBy 49 = .ok (.iconst 1, 1) := by decide +kernel
theorem dX7_metBy_50 : decode cX7_metBy 50 = .ok (.goto 4, 3) := by decide +kernel
theorem dX7_metBy_53 : decode cX7_metBy 53 = .ok (.iconst 0, 1) := by decide +kernel
theorem dX7_metBy_54 : decode cX7_metBy 54 = .ok (.istore 4, 2) := by decide +kernel
theorem dX7_metBy_56 : decode cX7_metBy 56 = .ok (.iinc 5 1, 3) := by decide +kernel
theorem dX7_metBy_59 : decode cX7_metBy 59 = .ok (.goto (-41), 3) := by decide +kernel
theorem dX7_metBy_62 : decode cX7_metBy 62 = .ok (.iload_n 2, 1) := by decide +kernel
theorem dX7_metBy_63 : decode cX7_metBy 63 = .ok (.iload 4, 2) := by decide +kernel
theorem dX7_metBy_65 : decode cX7_metBy 65 = .ok (.ifCond .eq 12, 3) := by decide +kernel
theorem dX7_metBy_68 : decode cX7_metBy 68 = .ok (.iload_n 3, 1) := by decide +kernel
theorem dX7_metBy_69 : decode cX7_metBy 69 = .ok (.iload_n 1, 1) := by decide +kernel
theorem dX7_metBy_70 : decode cX7_metBy 70 = .ok (.if_icmp .eq 7, 3) := by decide +kernel
theorem dX7_metBy_73 : decode cX7_metBy 73 = .ok (.iconst 1, 1) := by decide +kernel
theorem dX7_metBy_74 : decode cX7_metBy 74 = .ok (.goto 4, 3) := by decide +kernel
theorem dX7_metBy_77 : decode cX7_metBy 77 = .ok (.iconst 0, 1) := by decide +kernel
theorem dX7_metBy_78 : decode cX7_metBy 78 = .ok (.iadd, 1) := by decide +kernel
theorem dX7_metBy_79 : decode cX7_metBy 79 = .ok (.istore_n 2, 1) := by decide +kernel
theorem dX7_metBy_80 : decode cX7_metBy 80 = .ok (.iinc 3 1, 3) := by decide +kernel
theorem dX7_metBy_83 : decode cX7_metBy 83 = .ok (.goto (-79), 3) := by decide +kernel
theorem dX7_metBy_86 : decode cX7_metBy 86 = .ok (.iload_n 2, 1) := by decide +kernel
theorem dX7_metBy_87 : decode cX7_metBy 87 = .ok (.ireturn, 1) := by decide +kernel
theorem dX7_ofBy_0 : decode cX7_ofBy 0 = .ok (.iload_n 2, 1) := by decide +kernel
theorem dX7_ofBy_1 : decode cX7_ofBy 1 = .ok (.iconst 4, 1) := by decide +kernel
theorem dX7_ofBy_2 : decode cX7_ofBy 2 = .ok (.if_icmp .ge 10, 3) := by decide +kernel
theorem dX7_ofBy_5 : decode cX7_ofBy 5 = .ok (.aload_n 0, 1) := by decide +kernel
theorem dX7_ofBy_6 : decode cX7_ofBy 6 = .ok (.iload_n 1, 1) := by decide +kernel
theorem dX7_ofBy_7 : decode cX7_ofBy 7 = .ok (.iload_n 2, 1) := by decide +kernel
theorem dX7_ofBy_8 : decode cX7_ofBy 8 = .ok (.invokevirtual 108, 3) := by decide +kernel
theorem dX7_ofBy_11 : decode cX7_ofBy 11 = .ok (.ireturn, 1) := by decide +kernel
theorem dX7_ofBy_12 : decode cX7_ofBy 12 = .ok (.aload_n 0, 1) := by decide +kernel
theorem dX7_ofBy_13 : decode cX7_ofBy 13 = .ok (.invokevirtual 146, 3) := by decide +kernel
theorem dX7_ofBy_16 : decode cX7_ofBy 16 = .ok (.iload_n 2, 1) := by decide +kernel
theorem dX7_ofBy_17 : decode cX7_ofBy 17 = .ok (.iconst 4, 1) := by decide +kernel
theorem dX7_ofBy_18 : decode cX7_ofBy 18 = .ok (.if_icmp .ne 12, 3) := by decide +kernel
theorem dX7_ofBy_21 : decode cX7_ofBy 21 = .ok (.aload_n 0, 1) := by decide +kernel
theorem dX7_ofBy_22 : decode cX7_ofBy 22 = .ok (.getfield 35, 3) := by decide +kernel
theorem dX7_ofBy_25 : decode cX7_ofBy 25 = .ok (.iload_n 1, 1) := by decide +kernel
theorem dX7_ofBy_26 : decode cX7_ofBy 26 = .ok (.iaload, 1) := by decide +kernel
theorem dX7_ofBy_27 : decode cX7_ofBy 27 = .ok (.goto 8, 3) := by decide +kernel
theorem dX7_ofBy_30 : decode cX7_ofBy 30 = .ok (.aload_n 0, 1) := by decide +kernel
theorem dX7_ofBy_31 : decode cX7_ofBy 31 = .ok (.iload_n 1, 1) := by decide +kernel
theorem dX7_ofBy_32 : decode cX7_ofBy 32 = .ok (.invokevirtual 149, 3) := by decide +kernel
theorem dX7_ofBy_35 : decode cX7_ofBy 35 = .ok (.ireturn, 1) := by decide +kernel
theorem dX7_of_0 : decode cX7_of 0 = .ok (.aload_n 0, 1) := by decide +kernel
theorem dX7_of_1 : decode cX7_of 1 = .ok (.iload_n 1, 1) := by decide +kernel
theorem dX7_of_2 : decode cX7_of 2 = .ok (.invokevirtual 105, 3) := by decide +kernel
theorem dX7_of_5 : decode cX7_of 5 = .ok (.ifCond .eq 21, 3) := by decide +kernel
theorem dX7_of_8 : decode cX7_of 8 = .ok (.iload_n 2, 1) := by decide +kernel
theorem dX7_of_9 : decode cX7_of 9 = .ok (.iconst 0, 1) := by decide +kernel
theorem dX7_of_10 : decode cX7_of 10 = .ok (.iconst 5, 1) := by decide +kernel
theorem dX7_of_11 : decode cX7_of 11 = .ok (.invokestatic 72, 3) := by decide +kernel
theorem dX7_of_14 : decode cX7_of 14 = .ok (.ifCond .eq 12, 3) := by decide +kernel
theorem dX7_of_17 : decode cX7_of 17 = .ok (.aload_n 0, 1) := by decide +kernel
theorem dX7_of_18 : decode cX7_of 18 = .ok (.iload_n 1, 1) := by decide +kernel
theorem dX7_of_19 : decode cX7_of 19 = .ok (.iload_n 2, 1) := by decide +kernel
theorem dX7_of_20 : decode cX7_of 20 = .ok (.invokevirtual 152, 3) := by decide +kernel
theorem dX7_of_23 : decode cX7_of 23 = .ok (.goto 7, 3) := by decide +kernel
theorem dX7_of_26 : decode cX7_of 26 = .ok (.aload_n 0, 1) := by decide +kernel
theorem dX7_of_27 : decode cX7_of 27 = .ok (.invokevirtual 85, 3) := by decide +kernel
theorem dX7_of_30 : decode cX7_of 30 = .ok (.ireturn, 1) := by decide +kernel
theorem dX7_step_0 : decode cX7_step 0 = .ok (.aload_n 0, 1) := by decide +kernel
theorem dX7_step_1 : decode cX7_step 1 = .ok (.iload_n 1, 1) := by decide +kernel
theorem dX7_step_2 : decode cX7_step 2 = .ok (.invokevirtual 105, 3) := by decide +kernel
theorem dX7_step_5 : decode cX7_step 5 = .ok (.ifCond .eq 7, 3) := by decide +kernel
theorem dX7_step_8 : decode cX7_step 8 = .ok (.iload_n 2, 1) := by decide +kernel
theorem dX7_step_9 : decode cX7_step 9 = .ok (.ifCond .ge 8, 3) := by decide +kernel
theorem dX7_step_12 : decode cX7_step 12 = .ok (.aload_n 0, 1) := by decide +kernel
theorem dX7_step_13 : decode cX7_step 13 = .ok (.invokevirtual 85, 3) := by decide +kernel
theorem dX7_step_16 : decode cX7_step 16 = .ok (.ireturn, 1) := by decide +kernel
theorem dX7_step_17 : decode cX7_step 17 = .ok (.aload_n 0, 1) := by decide +kernel
theorem dX7_step_18 : decode cX7_step 18 = .ok (.invokevirtual 146, 3) := by decide +kernel
theorem dX7_step_21 : decode cX7_step 21 = .ok (.iload_n 2, 1) := by decide +kernel
theorem dX7_step_22 : decode cX7_step 22 = .ok (.aload_n 0, 1) := by decide +kernel
theorem dX7_step_23 : decode cX7_step 23 = .ok (.getfield 35, 3) := by decide +kernel
theorem dX7_step_26 : decode cX7_step 26 = .ok (.iload_n 1, 1) := by decide +kernel
theorem dX7_step_27 : decode cX7_step 27 = .ok (.iaload, 1) := by decide +kernel
theorem dX7_step_28 : decode cX7_step 28 = .ok (.if_icmp .gt 17, 3) := by decide +kernel
theorem dX7_step_31 : decode cX7_step 31 = .ok (.aload_n 0, 1) := by decide +kernel
theorem dX7_step_32 : decode cX7_step 32 = .ok (.getfield 41, 3) := by decide +kernel
theorem dX7_step_35 : decode cX7_step 35 = .ok (.bipush 9, 2) := by decide +kernel
theorem dX7_step_37 : decode cX7_step 37 = .ok (.iload_n 1, 1) := by decide +kernel
theorem dX7_step_38 : decode cX7_step 38 = .ok (.imul, 1) := by decide +kernel
theorem dX7_step_39 : decode cX7_step 39 = .ok (.iload_n 2, 1) := by decide +kernel
theorem dX7_step_40 : decode cX7_step 40 = .ok (.iadd, 1) := by decide +kernel
theorem dX7_step_41 : decode cX7_step 41 = .ok (.iaload, 1) := by decide +kernel
theorem dX7_step_42 : decode cX7_step 42 = .ok (.goto 5, 3) := by decide +kernel
theorem dX7_step_45 : decode cX7_step 45 = .ok (.bipush (-5), 2) := by decide +kernel
theorem dX7_step_47 : decode cX7_step 47 = .ok (.ireturn, 1) := by decide +kernel
theorem dX7_noLoads_0 : decode cX7_noLoads 0 = .ok (.iconst 0, 1) := by decide +kernel
theorem dX7_noLoads_1 : decode cX7_noLoads 1 = .ok (.istore_n 1, 1) := by decide +kernel
theorem dX7_noLoads_2 : decode cX7_noLoads 2 = .ok (.iload_n 1, 1) := by decide +kernel
theorem dX7_noLoads_3 : decode cX7_noLoads 3 = .ok (.bipush 64, 2) := by decide +kernel
theorem dX7_noLoads_5 : decode cX7_noLoads 5 = .ok (.if_icmp .ge 16, 3) := by decide +kernel
theorem dX7_noLoads_8 : decode cX7_noLoads 8 = .ok (.aload_n 0, 1) := by decide +kernel
theorem dX7_noLoads_9 : decode cX7_noLoads 9 = .ok (.getfield 44, 3) := by decide +kernel
theorem dX7_noLoads_12 : decode cX7_noLoads 12 = .ok (.iload_n 1, 1) := by decide +kernel
theorem dX7_noLoads_13 : decode cX7_noLoads 13 = .ok (.iconst 0, 1) := by decide +kernel
theorem dX7_noLoads_14 : decode cX7_noLoads 14 = .ok (.iastore, 1) := by decide +kernel
theorem dX7_noLoads_15 : decode cX7_noLoads 15 = .ok (.iinc 1 1, 3) := by decide +kernel
theorem dX7_noLoads_18 : decode cX7_noLoads 18 = .ok (.goto (-16), 3) := by decide +kernel
theorem dX7_noLoads_21 : decode cX7_noLoads 21 = .ok (.return_, 1) := by decide +kernel
theorem dX7_loadsBy_0 : decode cX7_loadsBy 0 = .ok (.iconst 0, 1) := by decide +kernel
theorem dX7_loadsBy_1 : decode cX7_loadsBy 1 = .ok (.istore_n 3, 1) := by decide +kernel
theorem dX7_loadsBy_2 : decode cX7_loadsBy 2 = .ok (.iload_n 3, 1) := by decide +kernel
theorem dX7_loadsBy_3 : decode cX7_loadsBy 3 = .ok (.aload_n 0, 1) := by decide +kernel
theorem dX7_loadsBy_4 : decode cX7_loadsBy 4 = .ok (.getfield 35, 3) := by decide +kernel
theorem dX7_loadsBy_7 : decode cX7_loadsBy 7 = .ok (.iload_n 1, 1) := by decide +kernel
theorem dX7_loadsBy_8 : decode cX7_loadsBy 8 = .ok (.iaload, 1) := by decide +kernel
theorem dX7_loadsBy_9 : decode cX7_loadsBy 9 = .ok (.if_icmp .ge 24, 3) := by decide +kernel
theorem dX7_loadsBy_12 : decode cX7_loadsBy 12 = .ok (.aload_n 0, 1) := by decide +kernel
theorem dX7_loadsBy_13 : decode cX7_loadsBy 13 = .ok (.getfield 44, 3) := by decide +kernel
theorem dX7_loadsBy_16 : decode cX7_loadsBy 16 = .ok (.aload_n 0, 1) := by decide +kernel
theorem dX7_loadsBy_17 : decode cX7_loadsBy 17 = .ok (.iload_n 1, 1) := by decide +kernel
theorem dX7_loadsBy_18 : decode cX7_loadsBy 18 = .ok (.iload_n 3, 1) := by decide +kernel
theorem dX7_loadsBy_19 : decode cX7_loadsBy 19 = .ok (.invokevirtual 139, 3) := by decide +kernel
theorem dX7_loadsBy_22 : decode cX7_loadsBy 22 = .ok (.dup2, 1) := by decide +kernel
theorem dX7_loadsBy_23 : decode cX7_loadsBy 23 = .ok (.iaload, 1) := by decide +kernel
theorem dX7_loadsBy_24 : decode cX7_loadsBy 24 = .ok (.iload_n 2, 1) := by decide +kernel
theorem dX7_loadsBy_25 : decode cX7_loadsBy 25 = .ok (.iadd, 1) := by decide +kernel
theorem dX7_loadsBy_26 : decode cX7_loadsBy 26 = .ok (.iastore, 1) := by decide +kernel
theorem dX7_loadsBy_27 : decode cX7_loadsBy 27 = .ok (.iinc 3 1, 3) := by decide +kernel
theorem dX7_loadsBy_30 : decode cX7_loadsBy 30 = .ok (.goto (-28), 3) := by decide +kernel
theorem dX7_loadsBy_33 : decode cX7_loadsBy 33 = .ok (.return_, 1) := by decide +kernel
theorem dX7_setLoads_0 : decode cX7_setLoads 0 = .ok (.aload_n 0, 1) := by decide +kernel
theorem dX7_setLoads_1 : decode cX7_setLoads 1 = .ok (.invokevirtual 146, 3) := by decide +kernel
theorem dX7_setLoads_4 : decode cX7_setLoads 4 = .ok (.aload_n 0, 1) := by decide +kernel
theorem dX7_setLoads_5 : decode cX7_setLoads 5 = .ok (.invokevirtual 155, 3) := by decide +kernel
theorem dX7_setLoads_8 : decode cX7_setLoads 8 = .ok (.iconst 0, 1) := by decide +kernel
theorem dX7_setLoads_9 : decode cX7_setLoads 9 = .ok (.istore_n 1, 1) := by decide +kernel
theorem dX7_setLoads_10 : decode cX7_setLoads 10 = .ok (.iload_n 1, 1) := by decide +kernel
theorem dX7_setLoads_11 : decode cX7_setLoads 11 = .ok (.aload_n 0, 1) := by decide +kernel
theorem dX7_setLoads_12 : decode cX7_setLoads 12 = .ok (.getfield 76, 3) := by decide +kernel
theorem dX7_setLoads_15 : decode cX7_setLoads 15 = .ok (.if_icmp .ge 15, 3) := by decide +kernel
theorem dX7_setLoads_18 : decode cX7_setLoads 18 = .ok (.aload_n 0, 1) := by decide +kernel
theorem dX7_setLoads_19 : decode cX7_setLoads 19 = .ok (.iload_n 1, 1) := by decide +kernel
theorem dX7_setLoads_20 : decode cX7_setLoads 20 = .ok (.iconst 1, 1) := by decide +kernel
theorem dX7_setLoads_21 : decode cX7_setLoads 21 = .ok (.invokevirtual 158, 3) := by decide +kernel
theorem dX7_setLoads_24 : decode cX7_setLoads 24 = .ok (.iinc 1 1, 3) := by decide +kernel
theorem dX7_setLoads_27 : decode cX7_setLoads 27 = .ok (.goto (-17), 3) := by decide +kernel
theorem dX7_setLoads_30 : decode cX7_setLoads 30 = .ok (.return_, 1) := by decide +kernel
theorem dX7_isEdge_0 : decode cX7_isEdge 0 = .ok (.aload_n 0, 1) := by decide +kernel
theorem dX7_isEdge_1 : decode cX7_isEdge 1 = .ok (.iload_n 1, 1) := by decide +kernel
theorem dX7_isEdge_2 : decode cX7_isEdge 2 = .ok (.invokevirtual 91, 3) := by decide +kernel
theorem dX7_isEdge_5 : decode cX7_isEdge 5 = .ok (.ifCond .eq 21, 3) := by decide +kernel
theorem dX7_isEdge_8 : decode cX7_isEdge 8 = .ok (.iload_n 2, 1) := by decide +kernel
theorem dX7_isEdge_9 : decode cX7_isEdge 9 = .ok (.iconst 0, 1) := by decide +kernel
theorem dX7_isEdge_10 : decode cX7_isEdge 10 = .ok (.aload_n 0, 1) := by decide +kernel
theorem dX7_isEdge_11 : decode cX7_isEdge 11 = .ok (.getfield 13, 3) := by decide +kernel
theorem dX7_isEdge_14 : decode cX7_isEdge 14 = .ok (.iconst 1, 1) := by decide +kernel
theorem dX7_isEdge_15 : decode cX7_isEdge 15 = .ok (.isub, 1) := by decide +kernel
theorem dX7_isEdge_16 : decode cX7_isEdge 16 = .ok (.invokestatic 72, 3) := by decide +kernel
theorem dX7_isEdge_19 : decode cX7_isEdge 19 = .ok (.ifCond .eq 7, 3) := by decide +kernel
theorem dX7_isEdge_22 : decode cX7_isEdge 22 = .ok (.iconst 1, 1) := by decide +kernel
theorem dX7_isEdge_23 : decode cX7_isEdge 23 = .ok (.goto 4, 3) := by decide +kernel
theorem dX7_isEdge_26 : decode cX7_isEdge 26 = .ok (.iconst 0, 1) := by decide +kernel
theorem dX7_isEdge_27 : decode cX7_isEdge 27 = .ok (.ireturn, 1) := by decide +kernel
theorem dX7_load_0 : decode cX7_load 0 = .ok (.aload_n 0, 1) := by decide +kernel
theorem dX7_load_1 : decode cX7_load 1 = .ok (.iload_n 1, 1) := by decide +kernel
theorem dX7_load_2 : decode cX7_load 2 = .ok (.iload_n 2, 1) := by decide +kernel
theorem dX7_load_3 : decode cX7_load 3 = .ok (.invokevirtual 161, 3) := by decide +kernel
theorem dX7_load_6 : decode cX7_load 6 = .ok (.ifCond .ne 8, 3) := by decide +kernel
theorem dX7_load_9 : decode cX7_load 9 = .ok (.aload_n 0, 1) := by decide +kernel
theorem dX7_load_10 : decode cX7_load 10 = .ok (.invokevirtual 85, 3) := by decide +kernel
theorem dX7_load_13 : decode cX7_load 13 = .ok (.ireturn, 1) := by decide +kernel
theorem dX7_load_14 : decode cX7_load 14 = .ok (.aload_n 0, 1) := by decide +kernel
theorem dX7_load_15 : decode cX7_load 15 = .ok (.invokevirtual 164, 3) := by decide +kernel
theorem dX7_load_18 : decode cX7_load 18 = .ok (.aload_n 0, 1) := by decide +kernel
theorem dX7_load_19 : decode cX7_load 19 = .ok (.getfield 44, 3) := by decide +kernel
theorem dX7_load_22 : decode cX7_load 22 = .ok (.iconst 4, 1) := by decide +kernel
theorem dX7_load_23 : decode cX7_load 23 = .ok (.iload_n 1, 1) := by decide +kernel
theorem dX7_load_24 : decode cX7_load 24 = .ok (.imul, 1) := by decide +kernel
theorem dX7_load_25 : decode cX7_load 25 = .ok (.iload_n 2, 1) := by decide +kernel
theorem dX7_load_26 : decode cX7_load 26 = .ok (.iadd, 1) := by decide +kernel
theorem dX7_load_27 : decode cX7_load 27 = .ok (.iaload, 1) := by decide +kernel
theorem dX7_load_28 : decode cX7_load 28 = .ok (.ireturn, 1) := by decide +kernel
theorem dX7_most_0 : decode cX7_most 0 = .ok (.iconst 0, 1) := by decide +kernel
theorem dX7_most_1 : decode cX7_most 1 = .ok (.istore_n 1, 1) := by decide +kernel
theorem dX7_most_2 : decode cX7_most 2 = .ok (.iconst 0, 1) := by decide +kernel
theorem dX7_most_3 : decode cX7_most 3 = .ok (.istore_n 2, 1) := by decide +kernel
theorem dX7_most_4 : decode cX7_most 4 = .ok (.iload_n 2, 1) := by decide +kernel
theorem dX7_most_5 : decode cX7_most 5 = .ok (.bipush 64, 2) := by decide +kernel
theorem dX7_most_7 : decode cX7_most 7 = .ok (.if_icmp .ge 30, 3) := by decide +kernel
theorem dX7_most_10 : decode cX7_most 10 = .ok (.aload_n 0, 1) := by decide +kernel
theorem dX7_most_11 : decode cX7_most 11 = .ok (.getfield 44, 3) := by decide +kernel
theorem dX7_most_14 : decode cX7_most 14 = .ok (.iload_n 2, 1) := by decide +kernel
theorem dX7_most_15 : decode cX7_most 15 = .ok (.iaload, 1) := by decide +kernel
theorem dX7_most_16 : decode cX7_most 16 = .ok (.iload_n 1, 1) := by decide +kernel
theorem dX7_most_17 : decode cX7_most 17 = .ok (.if_icmp .le 12, 3) := by decide +kernel
theorem dX7_most_20 : decode cX7_most 20 = .ok (.aload_n 0, 1) := by decide +kernel
theorem dX7_most_21 : decode cX7_most 21 = .ok (.getfield 44, 3) := by decide +kernel
theorem dX7_most_24 : decode cX7_most 24 = .ok (.iload_n 2, 1) := by decide +kernel
theorem dX7_most_25 : decode cX7_most 25 = .ok (.iaload, 1) := by decide +kernel
theorem dX7_most_26 : decode cX7_most 26 = .ok (.goto 4, 3) := by decide +kernel
theorem dX7_most_29 : decode cX7_most 29 = .ok (.iload_n 1, 1) := by decide +kernel
theorem dX7_most_30 : decode cX7_most 30 = .ok (.istore_n 1, 1) := by decide +kernel
theorem dX7_most_31 : decode cX7_most 31 = .ok (.iinc 2 1, 3) := by decide +kernel
theorem dX7_most_34 : decode cX7_most 34 = .ok (.goto (-30), 3) := by decide +kernel
theorem dX7_most_37 : decode cX7_most 37 = .ok (.iload_n 1, 1) := by decide +kernel
theorem dX7_most_38 : decode cX7_most 38 = .ok (.ireturn, 1) := by decide +kernel
theorem dX7_firstOf_0 : decode cX7_firstOf 0 = .ok (.iconst (-1), 1) := by decide +kernel
theorem dX7_firstOf_1 : decode cX7_firstOf 1 = .ok (.istore_n 2, 1) := by decide +kernel
theorem dX7_firstOf_2 : decode cX7_firstOf 2 = .ok (.bipush 63, 2) := by decide +kernel
theorem dX7_firstOf_4 : decode cX7_firstOf 4 = .ok (.istore_n 3, 1) := by decide +kernel
theorem dX7_firstOf_5 : decode cX7_firstOf 5 = .ok (.iload_n 3, 1) := by decide +kernel
theorem dX7_firstOf_6 : decode cX7_firstOf 6 = .ok (.ifCond .lt 38, 3) := by decide +kernel
theorem dX7_firstOf_9 : decode cX7_firstOf 9 = .ok (.aload_n 0, 1) := by decide +kernel
theorem dX7_firstOf_10 : decode cX7_firstOf 10 = .ok (.iload_n 3, 1) := by decide +kernel
theorem dX7_firstOf_11 : decode cX7_firstOf 11 = .ok (.iconst 4, 1) := by decide +kernel
theorem dX7_firstOf_12 : decode cX7_firstOf 12 = .ok (.idiv, 1) := by decide +kernel
theorem dX7_firstOf_13 : decode cX7_firstOf 13 = .ok (.iload_n 3, 1) := by decide +kernel
theorem dX7_firstOf_14 : decode cX7_firstOf 14 = .ok (.iconst 4, 1) := by decide +kernel
theorem dX7_firstOf_15 : decode cX7_firstOf 15 = .ok (.irem, 1) := by decide +kernel
theorem dX7_firstOf_16 : decode cX7_firstOf 16 = .ok (.invokevirtual 161, 3) := by decide +kernel
theorem dX7_firstOf_19 : decode cX7_firstOf 19 = .ok (.ifCond .eq 17, 3) := by decide +kernel
theorem dX7_firstOf_22 : decode cX7_firstOf 22 = .ok (.aload_n 0, 1) := by decide +kernel
theorem dX7_firstOf_23 : decode cX7_firstOf 23 = .ok (.getfield 44, 3) := by decide +kernel
theorem dX7_firstOf_26 : decode cX7_firstOf 26 = .ok (.iload_n 3, 1) := by decide +kernel
theorem dX7_firstOf_27 : decode cX7_firstOf 27 = .ok (.iaload, 1) := by decide +kernel
theorem dX7_firstOf_28 : decode cX7_firstOf 28 = .ok (.iload_n 1, 1) := by decide +kernel
theorem dX7_firstOf_29 : decode cX7_firstOf 29 = .ok (.if_icmp .ne 7, 3) := by decide +kernel
theorem dX7_firstOf_32 : decode cX7_firstOf 32 = .ok (.iload_n 3, 1) := by decide +kernel
theorem dX7_firstOf_33 : decode cX7_firstOf 33 = .ok (.goto 4, 3) := by decide +kernel
theorem dX7_firstOf_36 : decode cX7_firstOf 36 = .ok (.iload_n 2, 1) := by decide +kernel
theorem dX7_firstOf_37 : decode cX7_firstOf 37 = .ok (.istore_n 2, 1) := by decide +kernel
theorem dX7_firstOf_38 : decode cX7_firstOf 38 = .ok (.iinc 3 (-1), 3) := by decide +kernel
theorem dX7_firstOf_41 : decode cX7_firstOf 41 = .ok (.goto (-36), 3) := by decide +kernel
theorem dX7_firstOf_44 : decode cX7_firstOf 44 = .ok (.iload_n 2, 1) := by decide +kernel
theorem dX7_firstOf_45 : decode cX7_firstOf 45 = .ok (.ireturn, 1) := by decide +kernel
theorem dX7_tenTimes_0 : decode cX7_tenTimes 0 = .ok (.iload_n 0, 1) := by decide +kernel
theorem dX7_tenTimes_1 : decode cX7_tenTimes 1 = .ok (.iconst (-1), 1) := by decide +kernel
theorem dX7_tenTimes_2 : decode cX7_tenTimes 2 = .ok (.if_icmp .ne 7, 3) := by decide +kernel
theorem dX7_tenTimes_5 : decode cX7_tenTimes 5 = .ok (.iconst (-1), 1) := by decide +kernel
theorem dX7_tenTimes_6 : decode cX7_tenTimes 6 = .ok (.goto 13, 3) := by decide +kernel
theorem dX7_tenTimes_9 : decode cX7_tenTimes 9 = .ok (.bipush 10, 2) := by decide +kernel
theorem dX7_tenTimes_11 : decode cX7_tenTimes 11 = .ok (.iload_n 0, 1) := by decide +kernel
theorem dX7_tenTimes_12 : decode cX7_tenTimes 12 = .ok (.iconst 4, 1) := by decide +kernel
theorem dX7_tenTimes_13 : decode cX7_tenTimes 13 = .ok (.idiv, 1) := by decide +kernel
theorem dX7_tenTimes_14 : decode cX7_tenTimes 14 = .ok (.imul, 1) := by decide +kernel
theorem dX7_tenTimes_15 : decode cX7_tenTimes 15 = .ok (.iload_n 0, 1) := by decide +kernel
theorem dX7_tenTimes_16 : decode cX7_tenTimes 16 = .ok (.iconst 4, 1) := by decide +kernel
theorem dX7_tenTimes_17 : decode cX7_tenTimes 17 = .ok (.irem, 1) := by decide +kernel
theorem dX7_tenTimes_18 : decode cX7_tenTimes 18 = .ok (.iadd, 1) := by decide +kernel
theorem dX7_tenTimes_19 : decode cX7_tenTimes 19 = .ok (.ireturn, 1) := by decide +kernel
theorem dX7_loadsTell_0 : decode cX7_loadsTell 0 = .ok (.aload_n 0, 1) := by decide +kernel
theorem dX7_loadsTell_1 : decode cX7_loadsTell 1 = .ok (.invokevirtual 164, 3) := by decide +kernel
theorem dX7_loadsTell_4 : decode cX7_loadsTell 4 = .ok (.aload_n 0, 1) := by decide +kernel
theorem dX7_loadsTell_5 : decode cX7_loadsTell 5 = .ok (.invokevirtual 167, 3) := by decide +kernel
theorem dX7_loadsTell_8 : decode cX7_loadsTell 8 = .ok (.istore_n 2, 1) := by decide +kernel
theorem dX7_loadsTell_9 : decode cX7_loadsTell 9 = .ok (.iconst 0, 1) := by decide +kernel
theorem dX7_loadsTell_10 : decode cX7_loadsTell 10 = .ok (.istore_n 3, 1) := by decide +kernel
theorem dX7_loadsTell_11 : decode cX7_loadsTell 11 = .ok (.iconst 0, 1) := by decide +kernel
theorem dX7_loadsTell_12 : decode cX7_loadsTell 12 = .ok (.istore 4, 2) := by decide +kernel
theorem dX7_loadsTell_14 : decode cX7_loadsTell 14 = .ok (.iconst 0, 1) := by decide +kernel
theorem dX7_loadsTell_15 : decode cX7_loadsTell 15 = .ok (.istore 5, 2) := by decide +kernel
theorem dX7_loadsTell_17 : decode cX7_loadsTell 17 = .ok (.iload 5, 2) := by decide +kernel
theorem dX7_loadsTell_19 : decode cX7_loadsTell 19 = .ok (.bipush 64, 2) := by decide +kernel
theorem dX7_loadsTell_21 : decode cX7_loadsTell 21 = .ok (.if_icmp .ge 63, 3) := by decide +kernel
theorem dX7_loadsTell_24 : decode cX7_loadsTell 24 = .ok (.iload_n 3, 1) := by decide +kernel
theorem dX7_loadsTell_25 : decode cX7_loadsTell 25 = .ok (.aload_n 0, 1) := by decide +kernel
theorem dX7_loadsTell_26 : decode cX7_loadsTell 26 = .ok (.iload 5, 2) := by decide +kernel
theorem dX7_loadsTell_28 : decode cX7_loadsTell 28 = .ok (.iconst 4, 1) := by decide +kernel
theorem dX7_loadsTell_29 : decode cX7_loadsTell 29 = .ok (.idiv, 1) := by decide +kernel
theorem dX7_loadsTell_30 : decode cX7_loadsTell 30 = .ok (.iload 5, 2) := by decide +kernel
theorem dX7_loadsTell_32 : decode cX7_loadsTell 32 = .ok (.iconst 4, 1) := by decide +kernel
theorem dX7_loadsTell_33 : decode cX7_loadsTell 33 = .ok (.irem, 1) := by decide +kernel
theorem dX7_loadsTell_34 : decode cX7_loadsTell 34 = .ok (.invokevirtual 161, 3) := by decide +kernel
theorem dX7_loadsTell_37 : decode cX7_loadsTell 37 = .ok (.ifCond .eq 18, 3) := by decide +kernel
theorem dX7_loadsTell_40 : decode cX7_loadsTell 40 = .ok (.aload_n 0, 1) := by decide +kernel
theorem dX7_loadsTell_41 : decode cX7_loadsTell 41 = .ok (.getfield 44, 3) := by decide +kernel
theorem dX7_loadsTell_44 : decode cX7_loadsTell 44 = .ok (.iload 5, 2) := by decide +kernel
theorem dX7_loadsTell_46 : decode cX7_loadsTell 46 = .ok (.iaload, 1) := by decide +kernel
theorem dX7_loadsTell_47 : decode cX7_loadsTell 47 = .ok (.iload_n 2, 1) := by decide +kernel
theorem dX7_loadsTell_48 : decode cX7_loadsTell 48 = .ok (.if_icmp .ne 7, 3) := by decide +kernel
theorem dX7_loadsTell_51 : decode cX7_loadsTell 51 = .ok (.iconst 1, 1) := by decide +kernel
theorem dX7_loadsTell_52 : decode cX7_loadsTell 52 = .ok (.goto 4, 3) := by decide +kernel
theorem dX7_loadsTell_55 : decode cX7_loadsTell 55 = .ok (.iconst 0, 1) := by decide +kernel
theorem dX7_loadsTell_56 : decode cX7_loadsTell 56 = .ok (.iadd, 1) := by decide +kernel
theorem dX7_loadsTell_57 : decode cX7_loadsTell 57 = .ok (.istore_n 3, 1) := by decide +kernel
theorem dX7_loadsTell_58 : decode cX7_loadsTell 58 = .ok (.iload 4, 2) := by decide +kernel
theorem dX7_loadsTell_60 : decode cX7_loadsTell 60 = .ok (.aload_n 0, 1) := by decide +kernel
theorem dX7_loadsTell_61 : decode cX7_loadsTell 61 = .ok (.getfield 44, 3) := by decide +kernel
theorem dX7_loadsTell_64 : decode cX7_loadsTell 64 = .ok (.iload 5, 2) := by decide +kernel
theorem dX7_loadsTell_66 : decode cX7_loadsTell 66 = .ok (.iaload, 1) := by decide +kernel
theorem dX7_loadsTell_67 : decode cX7_loadsTell 67 = .ok (.ifCond .le 7, 3) := by decide +kernel
theorem dX7_loadsTell_70 : decode cX7_loadsTell 70 = .ok (.iconst 1, 1) := by decide +kernel
theorem dX7_loadsTell_71 : decode cX7_loadsTell 71 = .ok (.goto 4, 3) := by decide +kernel
theorem dX7_loadsTell_74 : decode cX7_loadsTell 74 = .ok (.iconst 0, 1) := by decide +kernel
theorem dX7_loadsTell_75 : decode cX7_loadsTell 75 = .ok (.iadd, 1) := by decide +kernel
theorem dX7_loadsTell_76 : decode cX7_loadsTell 76 = .ok (.istore 4, 2) := by decide +kernel
theorem dX7_loadsTell_78 : decode cX7_loadsTell 78 = .ok (.iinc 5 1, 3) := by decide +kernel
theorem dX7_loadsTell_81 : decode cX7_loadsTell 81 = .ok (.goto (-64), 3) := by decide +kernel
theorem dX7_loadsTell_84 : decode cX7_loadsTell 84 = .ok (.iload_n 1, 1) := by decide +kernel
theorem dX7_loadsTell_85 : decode cX7_loadsTell 85 = .ok (.ifCond .ne 7, 3) := by decide +kernel
theorem dX7_loadsTell_88 : decode cX7_loadsTell 88 = .ok (.iload_n 2, 1) := by decide +kernel
theorem dX7_loadsTell_89 : decode cX7_loadsTell 89 = .ok (.goto 38, 3) := by decide +kernel
theorem dX7_loadsTell_92 : decode cX7_loadsTell 92 = .ok (.iload_n 1, 1) := by decide +kernel
theorem dX7_loadsTell_93 : decode cX7_loadsTell 93 = .ok (.iconst 1, 1) := by decide +kernel
theorem dX7_loadsTell_94 : decode cX7_loadsTell 94 = .ok (.if_icmp .ne 7, 3) := by decide +kernel
theorem dX7_loadsTell_97 : decode cX7_loadsTell 97 = .ok (.iload_n 3, 1) := by decide +kernel
theorem dX7_loadsTell_98 : decode cX7_loadsTell 98 = .ok (.goto 29, 3) := by decide +kernel
theorem dX7_loadsTell_101 : decode cX7_loadsTell 101 = .ok (.iload_n 1, 1) := by decide +kernel
theorem dX7_loadsTell_102 : decode cX7_loadsTell 102 = .ok (.iconst 2, 1) := by decide +kernel
theorem dX7_loadsTell_103 : decode cX7_loadsTell 103 = .ok (.if_icmp .ne 8, 3) := by decide +kernel
theorem dX7_loadsTell_106 : decode cX7_loadsTell 106 = .ok (.iload 4, 2) := by decide +kernel
theorem dX7_loadsTell_108 : decode cX7_loadsTell 108 = .ok (.goto 19, 3) := by decide +kernel
theorem dX7_loadsTell_111 : decode cX7_loadsTell 111 = .ok (.iload_n 2, 1) := by decide +kernel
theorem dX7_loadsTell_112 : decode cX7_loadsTell 112 = .ok (.ifCond .ne 7, 3) := by decide +kernel
theorem dX7_loadsTell_115 : decode cX7_loadsTell 115 = .ok (.iconst (-1), 1) := by decide +kernel
theorem dX7_loadsTell_116 : decode cX7_loadsTell 116 = .ok (.goto 11, 3) := by decide +kernel
theorem dX7_loadsTell_119 : decode cX7_loadsTell 119 = .ok (.aload_n 0, 1) := by decide +kernel
theorem dX7_loadsTell_120 : decode cX7_loadsTell 120 = .ok (.iload_n 2, 1) := by decide +kernel
theorem dX7_loadsTell_121 : decode cX7_loadsTell 121 = .ok (.invokevirtual 170, 3) := by decide +kernel
theorem dX7_loadsTell_124 : decode cX7_loadsTell 124 = .ok (.invokestatic 173, 3) := by decide +kernel
theorem dX7_loadsTell_127 : decode cX7_loadsTell 127 = .ok (.ireturn, 1) := by decide +kernel
theorem dX7_loads_0 : decode cX7_loads 0 = .ok (.iload_n 1, 1) := by decide +kernel
theorem dX7_loads_1 : decode cX7_loads 1 = .ok (.iconst 0, 1) := by decide +kernel
theorem dX7_loads_2 : decode cX7_loads 2 = .ok (.iconst 3, 1) := by decide +kernel
theorem dX7_loads_3 : decode cX7_loads 3 = .ok (.invokestatic 72, 3) := by decide +kernel
theorem dX7_loads_6 : decode cX7_loads 6 = .ok (.ifCond .eq 11, 3) := by decide +kernel
theorem dX7_loads_9 : decode cX7_loads 9 = .ok (.aload_n 0, 1) := by decide +kernel
theorem dX7_loads_10 : decode cX7_loads 10 = .ok (.iload_n 1, 1) := by decide +kernel
theorem dX7_loads_11 : decode cX7_loads 11 = .ok (.invokevirtual 176, 3) := by decide +kernel
theorem dX7_loads_14 : decode cX7_loads 14 = .ok (.goto 7, 3) := by decide +kernel
theorem dX7_loads_17 : decode cX7_loads 17 = .ok (.aload_n 0, 1) := by decide +kernel
theorem dX7_loads_18 : decode cX7_loads 18 = .ok (.invokevirtual 85, 3) := by decide +kernel
theorem dX7_loads_21 : decode cX7_loads 21 = .ok (.ireturn, 1) := by decide +kernel
theorem dX7_tellsPart_0 : decode cX7_tellsPart 0 = .ok (.iload_n 1, 1) := by decide +kernel
theorem dX7_tellsPart_1 : decode cX7_tellsPart 1 = .ok (.istore_n 2, 1) := by decide +kernel
theorem dX7_tellsPart_2 : decode cX7_tellsPart 2 = .ok (.aload_n 0, 1) := by decide +kernel
theorem dX7_tellsPart_3 : decode cX7_tellsPart 3 = .ok (.invokevirtual 68, 3) := by decide +kernel
theorem dX7_tellsPart_6 : decode cX7_tellsPart 6 = .ok (.istore_n 3, 1) := by decide +kernel
theorem dX7_tellsPart_7 : decode cX7_tellsPart 7 = .ok (.iload_n 3, 1) := by decide +kernel
theorem dX7_tellsPart_8 : decode cX7_tellsPart 8 = .ok (.ifCond .eq 16, 3) := by decide +kernel
theorem dX7_tellsPart_11 : decode cX7_tellsPart 11 = .ok (.iload_n 2, 1) := by decide +kernel
theorem dX7_tellsPart_12 : decode cX7_tellsPart 12 = .ok (.iload_n 3, 1) := by decide +kernel
theorem dX7_tellsPart_13 : decode cX7_tellsPart 13 = .ok (.irem, 1) := by decide +kernel
theorem dX7_tellsPart_14 : decode cX7_tellsPart 14 = .ok (.istore 4, 2) := by decide +kernel
theorem dX7_tellsPart_16 : decode cX7_tellsPart 16 = .ok (.iload_n 3, 1) := by decide +kernel
theorem dX7_tellsPart_17 : decode cX7_tellsPart 17 = .ok (.istore_n 2, 1) := by decide +kernel
theorem dX7_tellsPart_18 : decode cX7_tellsPart 18 = .ok (.iload 4, 2) := by decide +kernel
theorem dX7_tellsPart_20 : decode cX7_tellsPart 20 = .ok (.istore_n 3, 1) := by decide +kernel
theorem dX7_tellsPart_21 : decode cX7_tellsPart 21 = .ok (.goto (-14), 3) := by decide +kernel
theorem dX7_tellsPart_24 : decode cX7_tellsPart 24 = .ok (.aload_n 0, 1) := by decide +kernel
theorem dX7_tellsPart_25 : decode cX7_tellsPart 25 = .ok (.iload_n 1, 1) := by decide +kernel
theorem dX7_tellsPart_26 : decode cX7_tellsPart 26 = .ok (.iload_n 2, 1) := by decide +kernel
theorem dX7_tellsPart_27 : decode cX7_tellsPart 27 = .ok (.idiv, 1) := by decide +kernel
theorem dX7_tellsPart_28 : decode cX7_tellsPart 28 = .ok (.putfield 179, 3) := by decide +kernel
theorem dX7_tellsPart_31 : decode cX7_tellsPart 31 = .ok (.aload_n 0, 1) := by decide +kernel
theorem dX7_tellsPart_32 : decode cX7_tellsPart 32 = .ok (.aload_n 0, 1) := by decide +kernel
theorem dX7_tellsPart_33 : decode cX7_tellsPart 33 = .ok (.invokevirtual 68, 3) := by decide +kernel
theorem dX7_tellsPart_36 : decode cX7_tellsPart 36 = .ok (.iload_n 2, 1) := by decide +kernel
theorem dX7_tellsPart_37 : decode cX7_tellsPart 37 = .ok (.idiv, 1) := by decide +kernel
theorem dX7_tellsPart_38 : decode cX7_tellsPart 38 = .ok (.putfield 47, 3) := by decide +kernel
theorem dX7_tellsPart_41 : decode cX7_tellsPart 41 = .ok (.return_, 1) := by decide +kernel
theorem dX7_addsDrawn_0 : decode cX7_addsDrawn 0 = .ok (.iconst 0, 1) := by decide +kernel
theorem dX7_addsDrawn_1 : decode cX7_addsDrawn 1 = .ok (.istore_n 2, 1) := by decide +kernel
theorem dX7_addsDrawn_2 : decode cX7_addsDrawn 2 = .ok (.iload_n 2, 1) := by decide +kernel
theorem dX7_addsDrawn_3 : decode cX7_addsDrawn 3 = .ok (.aload_n 0, 1) := by decide +kernel
theorem dX7_addsDrawn_4 : decode cX7_addsDrawn 4 = .ok (.invokevirtual 68, 3) := by decide +kernel
theorem dX7_addsDrawn_7 : decode cX7_addsDrawn 7 = .ok (.if_icmp .ge 21, 3) := by decide +kernel
theorem dX7_addsDrawn_10 : decode cX7_addsDrawn 10 = .ok (.aload_n 0, 1) := by decide +kernel
theorem dX7_addsDrawn_11 : decode cX7_addsDrawn 11 = .ok (.iload_n 1, 1) := by decide +kernel
theorem dX7_addsDrawn_12 : decode cX7_addsDrawn 12 = .ok (.iload_n 2, 1) := by decide +kernel
theorem dX7_addsDrawn_13 : decode cX7_addsDrawn 13 = .ok (.invokevirtual 135, 3) := by decide +kernel
theorem dX7_addsDrawn_16 : decode cX7_addsDrawn 16 = .ok (.aload_n 0, 1) := by decide +kernel
theorem dX7_addsDrawn_17 : decode cX7_addsDrawn 17 = .ok (.iload_n 1, 1) := by decide +kernel
theorem dX7_addsDrawn_18 : decode cX7_addsDrawn 18 = .ok (.iconst 1, 1) := by decide +kernel
theorem dX7_addsDrawn_19 : decode cX7_addsDrawn 19 = .ok (.invokevirtual 158, 3) := by decide +kernel
theorem dX7_addsDrawn_22 : decode cX7_addsDrawn 22 = .ok (.iinc 2 1, 3) := by decide +kernel
theorem dX7_addsDrawn_25 : decode cX7_addsDrawn 25 = .ok (.goto (-23), 3) := by decide +kernel
theorem dX7_addsDrawn_28 : decode cX7_addsDrawn 28 = .ok (.aload_n 0, 1) := by decide +kernel
theorem dX7_addsDrawn_29 : decode cX7_addsDrawn 29 = .ok (.iload_n 1, 1) := by decide +kernel
theorem dX7_addsDrawn_30 : decode cX7_addsDrawn 30 = .ok (.aload_n 0, 1) := by decide +kernel
theorem dX7_addsDrawn_31 : decode cX7_addsDrawn 31 = .ok (.getfield 26, 3) := by decide +kernel
theorem dX7_addsDrawn_34 : decode cX7_addsDrawn 34 = .ok (.iload_n 1, 1) := by decide +kernel
theorem dX7_addsDrawn_35 : decode cX7_addsDrawn 35 = .ok (.iaload, 1) := by decide +kernel
theorem dX7_addsDrawn_36 : decode cX7_addsDrawn 36 = .ok (.invokevirtual 135, 3) := by decide +kernel
theorem dX7_addsDrawn_39 : decode cX7_addsDrawn 39 = .ok (.return_, 1) := by decide +kernel
theorem dX7_setExpected_0 : decode cX7_setExpected 0 = .ok (.aload_n 0, 1) := by decide +kernel
theorem dX7_setExpected_1 : decode cX7_setExpected 1 = .ok (.invokevirtual 146, 3) := by decide +kernel
theorem dX7_setExpected_4 : decode cX7_setExpected 4 = .ok (.aload_n 0, 1) := by decide +kernel
theorem dX7_setExpected_5 : decode cX7_setExpected 5 = .ok (.invokevirtual 155, 3) := by decide +kernel
theorem dX7_setExpected_8 : decode cX7_setExpected 8 = .ok (.iconst 0, 1) := by decide +kernel
theorem dX7_setExpected_9 : decode cX7_setExpected 9 = .ok (.istore_n 2, 1) := by decide +kernel
theorem dX7_setExpected_10 : decode cX7_setExpected 10 = .ok (.iload_n 2, 1) := by decide +kernel
theorem dX7_setExpected_11 : decode cX7_setExpected 11 = .ok (.aload_n 0, 1) := by decide +kernel
theorem dX7_setExpected_12 : decode cX7_setExpected 12 = .ok (.getfield 76, 3) := by decide +kernel
theorem dX7_setExpected_15 : decode cX7_setExpected 15 = .ok (.if_icmp .ge 31, 3) := by decide +kernel
theorem dX7_setExpected_18 : decode cX7_setExpected 18 = .ok (.iload_n 2, 1) := by decide +kernel
theorem dX7_setExpected_19 : decode cX7_setExpected 19 = .ok (.iload_n 1, 1) := by decide +kernel
theorem dX7_setExpected_20 : decode cX7_setExpected 20 = .ok (.if_icmp .ge 15, 3) := by decide +kernel
theorem dX7_setExpected_23 : decode cX7_setExpected 23 = .ok (.aload_n 0, 1) := by decide +kernel
theorem dX7_setExpected_24 : decode cX7_setExpected 24 = .ok (.iload_n 2, 1) := by decide +kernel
theorem dX7_setExpected_25 : decode cX7_setExpected 25 = .ok (.aload_n 0, 1) := by decide +kernel
theorem dX7_setExpected_26 : decode cX7_setExpected 26 = .ok (.invokevirtual 68, 3) := by decide +kernel
theorem dX7_setExpected_29 : decode cX7_setExpected 29 = .ok (.invokevirtual 158, 3) := by decide +kernel
theorem dX7_setExpected_32 : decode cX7_setExpected 32 = .ok (.goto 8, 3) := by decide +kernel
theorem dX7_setExpected_35 : decode cX7_setExpected 35 = .ok (.aload_n 0, 1) := by decide +kernel
theorem dX7_setExpected_36 : decode cX7_setExpected 36 = .ok (.iload_n 2, 1) := by decide +kernel
theorem dX7_setExpected_37 : decode cX7_setExpected 37 = .ok (.invokevirtual 182, 3) := by decide +kernel
theorem dX7_setExpected_40 : decode cX7_setExpected 40 = .ok (.iinc 2 1, 3) := by decide +kernel
theorem dX7_setExpected_43 : decode cX7_setExpected 43 = .ok (.goto (-33), 3) := by decide +kernel
theorem dX7_setExpected_46 : decode cX7_setExpected 46 = .ok (.return_, 1) := by decide +kernel
theorem dX7_expected_0 : decode cX7_expected 0 = .ok (.aload_n 0, 1) := by decide +kernel
theorem dX7_expected_1 : decode cX7_expected 1 = .ok (.iload_n 1, 1) := by decide +kernel
theorem dX7_expected_2 : decode cX7_expected 2 = .ok (.iload_n 2, 1) := by decide +kernel
theorem dX7_expected_3 : decode cX7_expected 3 = .ok (.invokevirtual 161, 3) := by decide +kernel
theorem dX7_expected_6 : decode cX7_expected 6 = .ok (.ifCond .eq 13, 3) := by decide +kernel
theorem dX7_expected_9 : decode cX7_expected 9 = .ok (.iload_n 3, 1) := by decide +kernel
theorem dX7_expected_10 : decode cX7_expected 10 = .ok (.iconst 0, 1) := by decide +kernel
theorem dX7_expected_11 : decode cX7_expected 11 = .ok (.bipush 16, 2) := by decide +kernel
theorem dX7_expected_13 : decode cX7_expected 13 = .ok (.invokestatic 72, 3) := by decide +kernel
theorem dX7_expected_16 : decode cX7_expected 16 = .ok (.ifCond .ne 8, 3) := by decide +kernel
theorem dX7_expected_19 : decode cX7_expected 19 = .ok (.aload_n 0, 1) := by decide +kernel
theorem dX7_expected_20 : decode cX7_expected 20 = .ok (.invokevirtual 85, 3) := by decide +kernel
theorem dX7_expected_23 : decode cX7_expected 23 = .ok (.ireturn, 1) := by decide +kernel
theorem dX7_expected_24 : decode cX7_expected 24 = .ok (.aload_n 0, 1) := by decide +kernel
theorem dX7_expected_25 : decode cX7_expected 25 = .ok (.iload_n 3, 1) := by decide +kernel
theorem dX7_expected_26 : decode cX7_expected 26 = .ok (.invokevirtual 186, 3) := by decide +kernel
theorem dX7_expected_29 : decode cX7_expected 29 = .ok (.aload_n 0, 1) := by decide +kernel
theorem dX7_expected_30 : decode cX7_expected 30 = .ok (.aload_n 0, 1) := by decide +kernel
theorem dX7_expected_31 : decode cX7_expected 31 = .ok (.getfield 44, 3) := by decide +kernel
theorem dX7_expected_34 : decode cX7_expected 34 = .ok (.iconst 4, 1) := by decide +kernel
theorem dX7_expected_35 : decode cX7_expected 35 = .ok (.iload_n 1, 1) := by decide +kernel
theorem dX7_expected_36 : decode cX7_expected 36 = .ok (.imul, 1) := by decide +kernel
theorem dX7_expected_37 : decode cX7_expected 37 = .ok (.iload_n 2, 1) := by decide +kernel
theorem dX7_expected_38 : decode cX7_expected 38 = .ok (.iadd, 1) := by decide +kernel
theorem dX7_expected_39 : decode cX7_expected 39 = .ok (.iaload, 1) := by decide +kernel
theorem dX7_expected_40 : decode cX7_expected 40 = .ok (.invokevirtual 189, 3) := by decide +kernel
theorem dX7_expected_43 : decode cX7_expected 43 = .ok (.iconst 1, 1) := by decide +kernel
theorem dX7_expected_44 : decode cX7_expected 44 = .ok (.ireturn, 1) := by decide +kernel
theorem dX7_part_0 : decode cX7_part 0 = .ok (.iload_n 1, 1) := by decide +kernel
theorem dX7_part_1 : decode cX7_part 1 = .ok (.iconst 0, 1) := by decide +kernel
theorem dX7_part_2 : decode cX7_part 2 = .ok (.iconst 1, 1) := by decide +kernel
theorem dX7_part_3 : decode cX7_part 3 = .ok (.invokestatic 72, 3) := by decide +kernel
theorem dX7_part_6 : decode cX7_part 6 = .ok (.ifCond .ne 8, 3) := by decide +kernel
theorem dX7_part_9 : decode cX7_part 9 = .ok (.aload_n 0, 1) := by decide +kernel
theorem dX7_part_10 : decode cX7_part 10 = .ok (.invokevirtual 85, 3) := by decide +kernel
theorem dX7_part_13 : decode cX7_part 13 = .ok (.ireturn, 1) := by decide +kernel
theorem dX7_part_14 : decode cX7_part 14 = .ok (.iload_n 1, 1) := by decide +kernel
theorem dX7_part_15 : decode cX7_part 15 = .ok (.ifCond .ne 10, 3) := by decide +kernel
theorem dX7_part_18 : decode cX7_part 18 = .ok (.aload_n 0, 1) := by decide +kernel
theorem dX7_part_19 : decode cX7_part 19 = .ok (.getfield 179, 3) := by decide +kernel
theorem dX7_part_22 : decode cX7_part 22 = .ok (.goto 7, 3) := by decide +kernel
theorem dX7_part_25 : decode cX7_part 25 = .ok (.aload_n 0, 1) := by decide +kernel
theorem dX7_part_26 : decode cX7_part 26 = .ok (.getfield 47, 3) := by decide +kernel
theorem dX7_part_29 : decode cX7_part 29 = .ok (.ireturn, 1) := by decide +kernel
theorem dX7_greatest_0 : decode cX7_greatest 0 = .ok (.aload_n 0, 1) := by decide +kernel
theorem dX7_greatest_1 : decode cX7_greatest 1 = .ok (.getfield 76, 3) := by decide +kernel
theorem dX7_greatest_4 : decode cX7_greatest 4 = .ok (.ifCond .ne 8, 3) := by decide +kernel
theorem dX7_greatest_7 : decode cX7_greatest 7 = .ok (.aload_n 0, 1) := by decide +kernel
theorem dX7_greatest_8 : decode cX7_greatest 8 = .ok (.invokevirtual 82, 3) := by decide +kernel
theorem dX7_greatest_11 : decode cX7_greatest 11 = .ok (.ireturn, 1) := by decide +kernel
theorem dX7_greatest_12 : decode cX7_greatest 12 = .ok (.aload_n 0, 1) := by decide +kernel
theorem dX7_greatest_13 : decode cX7_greatest 13 = .ok (.iconst 0, 1) := by decide +kernel
theorem dX7_greatest_14 : decode cX7_greatest 14 = .ok (.invokevirtual 186, 3) := by decide +kernel
theorem dX7_greatest_17 : decode cX7_greatest 17 = .ok (.aload_n 0, 1) := by decide +kernel
theorem dX7_greatest_18 : decode cX7_greatest 18 = .ok (.invokevirtual 167, 3) := by decide +kernel
theorem dX7_greatest_21 : decode cX7_greatest 21 = .ok (.istore_n 1, 1) := by decide +kernel
theorem dX7_greatest_22 : decode cX7_greatest 22 = .ok (.aload_n 0, 1) := by decide +kernel
theorem dX7_greatest_23 : decode cX7_greatest 23 = .ok (.iload_n 1, 1) := by decide +kernel
theorem dX7_greatest_24 : decode cX7_greatest 24 = .ok (.invokevirtual 189, 3) := by decide +kernel
theorem dX7_greatest_27 : decode cX7_greatest 27 = .ok (.aload_n 0, 1) := by decide +kernel
theorem dX7_greatest_28 : decode cX7_greatest 28 = .ok (.iload_n 1, 1) := by decide +kernel
theorem dX7_greatest_29 : decode cX7_greatest 29 = .ok (.invokevirtual 170, 3) := by decide +kernel
theorem dX7_greatest_32 : decode cX7_greatest 32 = .ok (.invokestatic 173, 3) := by decide +kernel
theorem dX7_greatest_35 : decode cX7_greatest 35 = .ok (.ireturn, 1) := by decide +kernel
theorem dX7_squares_0 : decode cX7_squares 0 = .ok (.lconst 0, 1) := by decide +kernel
theorem dX7_squares_1 : decode cX7_squares 1 = .ok (.lstore_n 1, 1) := by decide +kernel
theorem dX7_squares_2 : decode cX7_squares 2 = .ok (.iconst 0, 1) := by decide +kernel
theorem dX7_squares_3 : decode cX7_squares 3 = .ok (.istore_n 3, 1) := by decide +kernel
theorem dX7_squares_4 : decode cX7_squares 4 = .ok (.iload_n 3, 1) := by decide +kernel
theorem dX7_squares_5 : decode cX7_squares 5 = .ok (.bipush 64, 2) := by decide +kernel
theorem dX7_squares_7 : decode cX7_squares 7 = .ok (.if_icmp .ge 27, 3) := by decide +kernel
theorem dX7_squares_10 : decode cX7_squares 10 = .ok (.lload_n 1, 1) := by decide +kernel
theorem dX7_squares_11 : decode cX7_squares 11 = .ok (.aload_n 0, 1) := by decide +kernel
theorem dX7_squares_12 : decode cX7_squares 12 = .ok (.getfield 44, 3) := by decide +kernel
theorem dX7_squares_15 : decode cX7_squares 15 = .ok (.iload_n 3, 1) := by decide +kernel
theorem dX7_squares_16 : decode cX7_squares 16 = .ok (.iaload, 1) := by decide +kernel
theorem dX7_squares_17 : decode cX7_squares 17 = .ok (.i2l, 1) := by decide +kernel
theorem dX7_squares_18 : decode cX7_squares 18 = .ok (.aload_n 0, 1) := by decide +kernel
theorem dX7_squares_19 : decode cX7_squares 19 = .ok (.getfield 44, 3) := by decide +kernel
theorem dX7_squares_22 : decode cX7_squares 22 = .ok (.iload_n 3, 1) := by decide +kernel
theorem dX7_squares_23 : decode cX7_squares 23 = .ok (.iaload, 1) := by decide +kernel
theorem dX7_squares_24 : decode cX7_squares 24 = .ok (.i2l, 1) := by decide +kernel
theorem dX7_squares_25 : decode cX7_squares 25 = .ok (.lmul, 1) := by decide +kernel
theorem dX7_squares_26 : decode cX7_squares 26 = .ok (.ladd, 1) := by decide +kernel
theorem dX7_squares_27 : decode cX7_squares 27 = .ok (.lstore_n 1, 1) := by decide +kernel
theorem dX7_squares_28 : decode cX7_squares 28 = .ok (.iinc 3 1, 3) := by decide +kernel
theorem dX7_squares_31 : decode cX7_squares 31 = .ok (.goto (-27), 3) := by decide +kernel
theorem dX7_squares_34 : decode cX7_squares 34 = .ok (.lload_n 1, 1) := by decide +kernel
theorem dX7_squares_35 : decode cX7_squares 35 = .ok (.lreturn, 1) := by decide +kernel
theorem dX7_choosesFor_0 : decode cX7_choosesFor 0 = .ok (.iconst 0, 1) := by decide +kernel
theorem dX7_choosesFor_1 : decode cX7_choosesFor 1 = .ok (.istore_n 2, 1) := by decide +kernel
theorem dX7_choosesFor_2 : decode cX7_choosesFor 2 = .ok (.iconst 0, 1) := by decide +kernel
theorem dX7_choosesFor_3 : decode cX7_choosesFor 3 = .ok (.istore_n 3, 1) := by decide +kernel
theorem dX7_choosesFor_4 : decode cX7_choosesFor 4 = .ok (.lconst 0, 1) := by decide +kernel
theorem dX7_choosesFor_5 : decode cX7_choosesFor 5 = .ok (.lstore 4, 2) := by decide +kernel
theorem dX7_choosesFor_7 : decode cX7_choosesFor 7 = .ok (.iconst 0, 1) := by decide +kernel
theorem dX7_choosesFor_8 : decode cX7_choosesFor 8 = .ok (.istore 6, 2) := by decide +kernel
theorem dX7_choosesFor_10 : decode cX7_choosesFor 10 = .ok (.iload 6, 2) := by decide +kernel
theorem dX7_choosesFor_12 : decode cX7_choosesFor 12 = .ok (.aload_n 0, 1) := by decide +kernel
theorem dX7_choosesFor_13 : decode cX7_choosesFor 13 = .ok (.invokevirtual 68, 3) := by decide +kernel
theorem dX7_choosesFor_16 : decode cX7_choosesFor 16 = .ok (.if_icmp .ge 71, 3) := by decide +kernel
theorem dX7_choosesFor_19 : decode cX7_choosesFor 19 = .ok (.aload_n 0, 1) := by decide +kernel
theorem dX7_choosesFor_20 : decode cX7_choosesFor 20 = .ok (.getfield 26, 3) := by decide +kernel
theorem dX7_choosesFor_23 : decode cX7_choosesFor 23 = .ok (.iload_n 1, 1) := by decide +kernel
theorem dX7_choosesFor_24 : decode cX7_choosesFor 24 = .ok (.iload 6, 2) := by decide +kernel
theorem dX7_choosesFor_26 : decode cX7_choosesFor 26 = .ok (.iastore, 1) := by decide +kernel
theorem dX7_choosesFor_27 : decode cX7_choosesFor 27 = .ok (.aload_n 0, 1) := by decide +kernel
theorem dX7_choosesFor_28 : decode cX7_choosesFor 28 = .ok (.iload_n 1, 1) := by decide +kernel
theorem dX7_choosesFor_29 : decode cX7_choosesFor 29 = .ok (.iconst 1, 1) := by decide +kernel
theorem dX7_choosesFor_30 : decode cX7_choosesFor 30 = .ok (.iadd, 1) := by decide +kernel
theorem dX7_choosesFor_31 : decode cX7_choosesFor 31 = .ok (.invokevirtual 186, 3) := by decide +kernel
theorem dX7_choosesFor_34 : decode cX7_choosesFor 34 = .ok (.aload_n 0, 1) := by decide +kernel
theorem dX7_choosesFor_35 : decode cX7_choosesFor 35 = .ok (.invokevirtual 167, 3) := by decide +kernel
theorem dX7_choosesFor_38 : decode cX7_choosesFor 38 = .ok (.istore 7, 2) := by decide +kernel
theorem dX7_choosesFor_40 : decode cX7_choosesFor 40 = .ok (.aload_n 0, 1) := by decide +kernel
theorem dX7_choosesFor_41 : decode cX7_choosesFor 41 = .ok (.invokevirtual 192, 3) := by decide +kernel
theorem dX7_choosesFor_44 : decode cX7_choosesFor 44 = .ok (.lstore 8, 2) := by decide +kernel
theorem dX7_choosesFor_46 : decode cX7_choosesFor 46 = .ok (.iload 6, 2) := by decide +kernel
theorem dX7_choosesFor_48 : decode cX7_choosesFor 48 = .ok (.ifCond .eq 23, 3) := by decide +kernel
theorem dX7_choosesFor_51 : decode cX7_choosesFor 51 = .ok (.iload 7, 2) := by decide +kernel
theorem dX7_choosesFor_53 : decode cX7_choosesFor 53 = .ok (.iload_n 3, 1) := by decide +kernel
theorem dX7_choosesFor_54 : decode cX7_choosesFor 54 = .ok (.if_icmp .lt 17, 3) := by decide +kernel
theorem dX7_choosesFor_57 : decode cX7_choosesFor 57 = .ok (.iload 7, 2) := by decide +kernel
theorem dX7_choosesFor_59 : decode cX7_choosesFor 59 = .ok (.iload_n 3, 1) := by decide +kernel
theorem dX7_choosesFor_60 : decode cX7_choosesFor 60 = .ok (.if_icmp .ne 21, 3) := by decide +kernel
theorem dX7_choosesFor_63 : decode cX7_choosesFor 63 = .ok (.lload 8, 2) := by decide +kernel
theorem dX7_choosesFor_65 : decode cX7_choosesFor 65 = .ok (.lload 4, 2) := by decide +kernel
theorem dX7_choosesFor_67 : decode cX7_choosesFor 67 = .ok (.lcmp, 1) := by decide +kernel
theorem dX7_choosesFor_68 : decode cX7_choosesFor 68 = .ok (.ifCond .ge 13, 3) := by decide +kernel
theorem dX7_choosesFor_71 : decode cX7_choosesFor 71 = .ok (.iload 6, 2) := by decide +kernel
theorem dX7_choosesFor_73 : decode cX7_choosesFor 73 = .ok (.istore_n 2, 1) := by decide +kernel
theorem dX7_choosesFor_74 : decode cX7_choosesFor 74 = .ok (.iload 7, 2) := by decide +kernel
theorem dX7_choosesFor_76 : decode cX7_choosesFor 76 = .ok (.istore_n 3, 1) := by decide +kernel
theorem dX7_choosesFor_77 : decode cX7_choosesFor 77 = .ok (.lload 8, 2) := by decide +kernel
theorem dX7_choosesFor_79 : decode cX7_choosesFor 79 = .ok (.lstore 4, 2) := by decide +kernel
theorem dX7_choosesFor_81 : decode cX7_choosesFor 81 = .ok (.iinc 6 1, 3) := by decide +kernel
theorem dX7_choosesFor_84 : decode cX7_choosesFor 84 = .ok (.goto (-74), 3) := by decide +kernel
theorem dX7_choosesFor_87 : decode cX7_choosesFor 87 = .ok (.aload_n 0, 1) := by decide +kernel
theorem dX7_choosesFor_88 : decode cX7_choosesFor 88 = .ok (.getfield 26, 3) := by decide +kernel
theorem dX7_choosesFor_91 : decode cX7_choosesFor 91 = .ok (.iload_n 1, 1) := by decide +kernel
theorem dX7_choosesFor_92 : decode cX7_choosesFor 92 = .ok (.iload_n 2, 1) := by decide +kernel
theorem dX7_choosesFor_93 : decode cX7_choosesFor 93 = .ok (.iastore, 1) := by decide +kernel
theorem dX7_choosesFor_94 : decode cX7_choosesFor 94 = .ok (.return_, 1) := by decide +kernel
theorem dX7_chooses_0 : decode cX7_chooses 0 = .ok (.aload_n 0, 1) := by decide +kernel
theorem dX7_chooses_1 : decode cX7_chooses 1 = .ok (.getfield 76, 3) := by decide +kernel
theorem dX7_chooses_4 : decode cX7_chooses 4 = .ok (.ifCond .ne 8, 3) := by decide +kernel
theorem dX7_chooses_7 : decode cX7_chooses 7 = .ok (.aload_n 0, 1) := by decide +kernel
theorem dX7_chooses_8 : decode cX7_chooses 8 = .ok (.invokevirtual 82, 3) := by decide +kernel
theorem dX7_chooses_11 : decode cX7_chooses 11 = .ok (.ireturn, 1) := by decide +kernel
theorem dX7_chooses_12 : decode cX7_chooses 12 = .ok (.aload_n 0, 1) := by decide +kernel
theorem dX7_chooses_13 : decode cX7_chooses 13 = .ok (.invokevirtual 88, 3) := by decide +kernel
theorem dX7_chooses_16 : decode cX7_chooses 16 = .ok (.iconst 0, 1) := by decide +kernel
theorem dX7_chooses_17 : decode cX7_chooses 17 = .ok (.istore_n 1, 1) := by decide +kernel
theorem dX7_chooses_18 : decode cX7_chooses 18 = .ok (.iload_n 1, 1) := by decide +kernel
theorem dX7_chooses_19 : decode cX7_chooses 19 = .ok (.aload_n 0, 1) := by decide +kernel
theorem dX7_chooses_20 : decode cX7_chooses 20 = .ok (.getfield 76, 3) := by decide +kernel
theorem dX7_chooses_23 : decode cX7_chooses 23 = .ok (.if_icmp .ge 14, 3) := by decide +kernel
theorem dX7_chooses_26 : decode cX7_chooses 26 = .ok (.aload_n 0, 1) := by decide +kernel
theorem dX7_chooses_27 : decode cX7_chooses 27 = .ok (.iload_n 1, 1) := by decide +kernel
theorem dX7_chooses_28 : decode cX7_chooses 28 = .ok (.invokevirtual 196, 3) := by decide +kernel
theorem dX7_chooses_31 : decode cX7_chooses 31 = .ok (.iinc 1 1, 3) := by decide +kernel
theorem dX7_chooses_34 : decode cX7_chooses 34 = .ok (.goto (-16), 3) := by decide +kernel
theorem dX7_chooses_37 : decode cX7_chooses 37 = .ok (.aload_n 0, 1) := by decide +kernel
theorem dX7_chooses_38 : decode cX7_chooses 38 = .ok (.invokevirtual 164, 3) := by decide +kernel
theorem dX7_chooses_41 : decode cX7_chooses 41 = .ok (.aload_n 0, 1) := by decide +kernel
theorem dX7_chooses_42 : decode cX7_chooses 42 = .ok (.invokevirtual 167, 3) := by decide +kernel
theorem dX7_chooses_45 : decode cX7_chooses 45 = .ok (.ireturn, 1) := by decide +kernel
theorem dX7_isAhead_0 : decode cX7_isAhead 0 = .ok (.iconst 0, 1) := by decide +kernel
theorem dX7_isAhead_1 : decode cX7_isAhead 1 = .ok (.istore 4, 2) := by decide +kernel
theorem dX7_isAhead_3 : decode cX7_isAhead 3 = .ok (.iload_n 3, 1) := by decide +kernel
theorem dX7_isAhead_4 : decode cX7_isAhead 4 = .ok (.ifCond .ne 21, 3) := by decide +kernel
theorem dX7_isAhead_7 : decode cX7_isAhead 7 = .ok (.aload_n 0, 1) := by decide +kernel
theorem dX7_isAhead_8 : decode cX7_isAhead 8 = .ok (.getfield 53, 3) := by decide +kernel
theorem dX7_isAhead_11 : decode cX7_isAhead 11 = .ok (.iload_n 2, 1) := by decide +kernel
theorem dX7_isAhead_12 : decode cX7_isAhead 12 = .ok (.iaload, 1) := by decide +kernel
theorem dX7_isAhead_13 : decode cX7_isAhead 13 = .ok (.aload_n 0, 1) := by decide +kernel
theorem dX7_isAhead_14 : decode cX7_isAhead 14 = .ok (.getfield 53, 3) := by decide +kernel
theorem dX7_isAhead_17 : decode cX7_isAhead 17 = .ok (.iload_n 1, 1) := by decide +kernel
theorem dX7_isAhead_18 : decode cX7_isAhead 18 = .ok (.iaload, 1) := by decide +kernel
theorem dX7_isAhead_19 : decode cX7_isAhead 19 = .ok (.isub, 1) := by decide +kernel
theorem dX7_isAhead_20 : decode cX7_isAhead 20 = .ok (.istore 4, 2) := by decide +kernel
theorem dX7_isAhead_22 : decode cX7_isAhead 22 = .ok (.goto 88, 3) := by decide +kernel
theorem dX7_isAhead_25 : decode cX7_isAhead 25 = .ok (.iload_n 3, 1) := by decide +kernel
theorem dX7_isAhead_26 : decode cX7_isAhead 26 = .ok (.iconst 2, 1) := by decide +kernel
theorem dX7_isAhead_27 : decode cX7_isAhead 27 = .ok (.if_icmp .ne 35, 3) := by decide +kernel
theorem dX7_isAhead_30 : decode cX7_isAhead 30 = .ok (.aload_n 0, 1) := by decide +kernel
theorem dX7_isAhead_31 : decode cX7_isAhead 31 = .ok (.getfield 35, 3) := by decide +kernel
theorem dX7_isAhead_34 : decode cX7_isAhead 34 = .ok (.iload_n 1, 1) := by decide +kernel
theorem dX7_isAhead_35 : decode cX7_isAhead 35 = .ok (.iaload, 1) := by decide +kernel
theorem dX7_isAhead_36 : decode cX7_isAhead 36 = .ok (.aload_n 0, 1) := by decide +kernel
theorem dX7_isAhead_37 : decode cX7_isAhead 37 = .ok (.getfield 50, 3) := by decide +kernel
theorem dX7_isAhead_40 : decode cX7_isAhead 40 = .ok (.iload_n 1, 1) := by decide +kernel
theorem dX7_isAhead_41 : decode cX7_isAhead 41 = .ok (.iaload, 1) := by decide +kernel
theorem dX7_isAhead_42 : decode cX7_isAhead 42 = .ok (.isub, 1) := by decide +kernel
theorem dX7_isAhead_43 : decode cX7_isAhead 43 = .ok (.aload_n 0, 1) := by decide +kernel
theorem dX7_isAhead_44 : decode cX7_isAhead 44 = .ok (.getfield 35, 3) := by decide +kernel
theorem dX7_isAhead_47 : decode cX7_isAhead 47 = .ok (.iload_n 2, 1) := by decide +kernel
theorem dX7_isAhead_48 : decode cX7_isAhead 48 = .ok (.iaload, 1) := by decide +kernel
theorem dX7_isAhead_49 : decode cX7_isAhead 49 = .ok (.isub, 1) := by decide +kernel
theorem dX7_isAhead_50 : decode cX7_isAhead 50 = .ok (.aload_n 0, 1) := by decide +kernel
theorem dX7_isAhead_51 : decode cX7_isAhead 51 = .ok (.getfield 50, 3) := by decide +kernel
theorem dX7_isAhead_54 : decode cX7_isAhead 54 = .ok (.iload_n 2, 1) := by decide +kernel
theorem dX7_isAhead_55 : decode cX7_isAhead 55 = .ok (.iaload, 1) := by decide +kernel
theorem dX7_isAhead_56 : decode cX7_isAhead 56 = .ok (.iadd, 1) := by decide +kernel
theorem dX7_isAhead_57 : decode cX7_isAhead 57 = .ok (.istore 4, 2) := by decide +kernel
theorem dX7_isAhead_59 : decode cX7_isAhead 59 = .ok (.goto 51, 3) := by decide +kernel
theorem dX7_isAhead_62 : decode cX7_isAhead 62 = .ok (.iload_n 3, 1) := by decide +kernel
theorem dX7_isAhead_63 : decode cX7_isAhead 63 = .ok (.iconst 3, 1) := by decide +kernel
theorem dX7_isAhead_64 : decode cX7_isAhead 64 = .ok (.if_icmp .ne 46, 3) := by decide +kernel
theorem dX7_isAhead_67 : decode cX7_isAhead 67 = .ok (.aload_n 0, 1) := by decide +kernel
theorem dX7_isAhead_68 : decode cX7_isAhead 68 = .ok (.getfield 50, 3) := by decide +kernel
theorem dX7_isAhead_71 : decode cX7_isAhead 71 = .ok (.iload_n 1, 1) := by decide +kernel
theorem dX7_isAhead_72 : decode cX7_isAhead 72 = .ok (.iaload, 1) := by decide +kernel
theorem dX7_isAhead_73 : decode cX7_isAhead 73 = .ok (.aload_n 0, 1) := by decide +kernel
theorem dX7_isAhead_74 : decode cX7_isAhead 74 = .ok (.getfield 38, 3) := by decide +kernel
theorem dX7_isAhead_77 : decode cX7_isAhead 77 = .ok (.iload_n 1, 1) := by decide +kernel
theorem dX7_isAhead_78 : decode cX7_isAhead 78 = .ok (.iaload, 1) := by decide +kernel
theorem dX7_isAhead_79 : decode cX7_isAhead 79 = .ok (.if_icmp .lt 7, 3) := by decide +kernel
theorem dX7_isAhead_82 : decode cX7_isAhead 82 = .ok (.iconst 1, 1) := by decide +kernel
theorem dX7_isAhead_83 : decode cX7_isAhead 83 = .ok (.goto 4, 3) := by decide +kernel
theorem dX7_isAhead_86 : decode cX7_isAhead 86 = .ok (.iconst 0, 1) := by decide +kernel
theorem dX7_isAhead_87 : decode cX7_isAhead 87 = .ok (.aload_n 0, 1) := by decide +kernel
theorem dX7_isAhead_88 : decode cX7_isAhead 88 = .ok (.getfield 50, 3) := by decide +kernel
theorem dX7_isAhead_91 : decode cX7_isAhead 91 = .ok (.iload_n 2, 1) := by decide +kernel
theorem dX7_isAhead_92 : decode cX7_isAhead 92 = .ok (.iaload, 1) := by decide +kernel
theorem dX7_isAhead_93 : decode cX7_isAhead 93 = .ok (.aload_n 0, 1) := by decide +kernel
theorem dX7_isAhead_94 : decode cX7_isAhead 94 = .ok (.getfield 38, 3) := by decide +kernel
theorem dX7_isAhead_97 : decode cX7_isAhead 97 = .ok (.iload_n 2, 1) := by decide +kernel
theorem dX7_isAhead_98 : decode cX7_isAhead 98 = .ok (.iaload, 1) := by decide +kernel
theorem dX7_isAhead_99 : decode cX7_isAhead 99 = .ok (.if_icmp .lt 7, 3) := by decide +kernel
theorem dX7_isAhead_102 : decode cX7_isAhead 102 = .ok (.iconst 1, 1) := by decide +kernel
theorem dX7_isAhead_103 : decode cX7_isAhead 103 = .ok (.goto 4, 3) := by decide +kernel
theorem dX7_isAhead_106 : decode cX7_isAhead 106 = .ok (.iconst 0, 1) := by decide +kernel
theorem dX7_isAhead_107 : decode cX7_isAhead 107 = .ok (.isub, 1) := by decide +kernel
theorem dX7_isAhead_108 : decode cX7_isAhead 108 = .ok (.istore 4, 2) := by decide +kernel
theorem dX7_isAhead_110 : decode cX7_isAhead 110 = .ok (.iload 4, 2) := by decide +kernel
theorem dX7_isAhead_112 : decode cX7_isAhead 112 = .ok (.ifCond .ne 19, 3) := by decide +kernel
theorem dX7_isAhead_115 : decode cX7_isAhead 115 = .ok (.aload_n 0, 1) := by decide +kernel
