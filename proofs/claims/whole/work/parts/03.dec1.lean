theorem dX6_parcel_86 : decode cX6_parcel 86 = .ok (.aload_n 0, 1) := by decide +kernel
theorem dX6_parcel_87 : decode cX6_parcel 87 = .ok (.getfield 10, 3) := by decide +kernel
theorem dX6_parcel_90 : decode cX6_parcel 90 = .ok (.iload_n 1, 1) := by decide +kernel
theorem dX6_parcel_91 : decode cX6_parcel 91 = .ok (.iload_n 2, 1) := by decide +kernel
theorem dX6_parcel_92 : decode cX6_parcel 92 = .ok (.iload_n 3, 1) := by decide +kernel
theorem dX6_parcel_93 : decode cX6_parcel 93 = .ok (.iload 4, 2) := by decide +kernel
theorem dX6_parcel_95 : decode cX6_parcel 95 = .ok (.invokevirtual 80, 3) := by decide +kernel
theorem dX6_parcel_98 : decode cX6_parcel 98 = .ok (.aload_n 0, 1) := by decide +kernel
theorem dX6_parcel_99 : decode cX6_parcel 99 = .ok (.getfield 10, 3) := by decide +kernel
theorem dX6_parcel_102 : decode cX6_parcel 102 = .ok (.getfield 73, 3) := by decide +kernel
theorem dX6_parcel_105 : decode cX6_parcel 105 = .ok (.iconst 1, 1) := by decide +kernel
theorem dX6_parcel_106 : decode cX6_parcel 106 = .ok (.isub, 1) := by decide +kernel
theorem dX6_parcel_107 : decode cX6_parcel 107 = .ok (.ireturn, 1) := by decide +kernel
theorem dX6_sets_0 : decode cX6_sets 0 = .ok (.aload_n 0, 1) := by decide +kernel
theorem dX6_sets_1 : decode cX6_sets 1 = .ok (.getfield 10, 3) := by decide +kernel
theorem dX6_sets_4 : decode cX6_sets 4 = .ok (.iload_n 1, 1) := by decide +kernel
theorem dX6_sets_5 : decode cX6_sets 5 = .ok (.invokevirtual 84, 3) := by decide +kernel
theorem dX6_sets_8 : decode cX6_sets 8 = .ok (.ifCond .eq 24, 3) := by decide +kernel
theorem dX6_sets_11 : decode cX6_sets 11 = .ok (.iload_n 2, 1) := by decide +kernel
theorem dX6_sets_12 : decode cX6_sets 12 = .ok (.ifCond .lt 20, 3) := by decide +kernel
theorem dX6_sets_15 : decode cX6_sets 15 = .ok (.iload_n 2, 1) := by decide +kernel
theorem dX6_sets_16 : decode cX6_sets 16 = .ok (.iconst 4, 1) := by decide +kernel
theorem dX6_sets_17 : decode cX6_sets 17 = .ok (.if_icmp .ge 15, 3) := by decide +kernel
theorem dX6_sets_20 : decode cX6_sets 20 = .ok (.aload_n 0, 1) := by decide +kernel
theorem dX6_sets_21 : decode cX6_sets 21 = .ok (.getfield 10, 3) := by decide +kernel
theorem dX6_sets_24 : decode cX6_sets 24 = .ok (.iload_n 2, 1) := by decide +kernel
theorem dX6_sets_25 : decode cX6_sets 25 = .ok (.iload_n 3, 1) := by decide +kernel
theorem dX6_sets_26 : decode cX6_sets 26 = .ok (.invokevirtual 76, 3) := by decide +kernel
theorem dX6_sets_29 : decode cX6_sets 29 = .ok (.ifCond .ne 10, 3) := by decide +kernel
theorem dX6_sets_32 : decode cX6_sets 32 = .ok (.aload_n 0, 1) := by decide +kernel
theorem dX6_sets_33 : decode cX6_sets 33 = .ok (.bipush (-2), 2) := by decide +kernel
theorem dX6_sets_35 : decode cX6_sets 35 = .ok (.invokevirtual 62, 3) := by decide +kernel
theorem dX6_sets_38 : decode cX6_sets 38 = .ok (.ireturn, 1) := by decide +kernel
theorem dX6_sets_39 : decode cX6_sets 39 = .ok (.aload_n 0, 1) := by decide +kernel
theorem dX6_sets_40 : decode cX6_sets 40 = .ok (.getfield 19, 3) := by decide +kernel
theorem dX6_sets_43 : decode cX6_sets 43 = .ok (.aload_n 0, 1) := by decide +kernel
theorem dX6_sets_44 : decode cX6_sets 44 = .ok (.getfield 10, 3) := by decide +kernel
theorem dX6_sets_47 : decode cX6_sets 47 = .ok (.invokevirtual 66, 3) := by decide +kernel
theorem dX6_sets_50 : decode cX6_sets 50 = .ok (.aload_n 0, 1) := by decide +kernel
theorem dX6_sets_51 : decode cX6_sets 51 = .ok (.getfield 10, 3) := by decide +kernel
theorem dX6_sets_54 : decode cX6_sets 54 = .ok (.iload_n 1, 1) := by decide +kernel
theorem dX6_sets_55 : decode cX6_sets 55 = .ok (.iload_n 2, 1) := by decide +kernel
theorem dX6_sets_56 : decode cX6_sets 56 = .ok (.invokevirtual 88, 3) := by decide +kernel
theorem dX6_sets_59 : decode cX6_sets 59 = .ok (.istore 4, 2) := by decide +kernel
theorem dX6_sets_61 : decode cX6_sets 61 = .ok (.aload_n 0, 1) := by decide +kernel
theorem dX6_sets_62 : decode cX6_sets 62 = .ok (.getfield 10, 3) := by decide +kernel
theorem dX6_sets_65 : decode cX6_sets 65 = .ok (.iload_n 1, 1) := by decide +kernel
theorem dX6_sets_66 : decode cX6_sets 66 = .ok (.iload_n 2, 1) := by decide +kernel
theorem dX6_sets_67 : decode cX6_sets 67 = .ok (.iload_n 3, 1) := by decide +kernel
theorem dX6_sets_68 : decode cX6_sets 68 = .ok (.invokevirtual 92, 3) := by decide +kernel
theorem dX6_sets_71 : decode cX6_sets 71 = .ok (.iload 4, 2) := by decide +kernel
theorem dX6_sets_73 : decode cX6_sets 73 = .ok (.ireturn, 1) := by decide +kernel
theorem dX6_rules_0 : decode cX6_rules 0 = .ok (.iload_n 1, 1) := by decide +kernel
theorem dX6_rules_1 : decode cX6_rules 1 = .ok (.ifCond .ne 16, 3) := by decide +kernel
theorem dX6_rules_4 : decode cX6_rules 4 = .ok (.iload_n 2, 1) := by decide +kernel
theorem dX6_rules_5 : decode cX6_rules 5 = .ok (.ifCond .lt 12, 3) := by decide +kernel
theorem dX6_rules_8 : decode cX6_rules 8 = .ok (.iload_n 2, 1) := by decide +kernel
theorem dX6_rules_9 : decode cX6_rules 9 = .ok (.iconst 2, 1) := by decide +kernel
theorem dX6_rules_10 : decode cX6_rules 10 = .ok (.if_icmp .ge 7, 3) := by decide +kernel
theorem dX6_rules_13 : decode cX6_rules 13 = .ok (.iconst 1, 1) := by decide +kernel
theorem dX6_rules_14 : decode cX6_rules 14 = .ok (.goto 4, 3) := by decide +kernel
theorem dX6_rules_17 : decode cX6_rules 17 = .ok (.iconst 0, 1) := by decide +kernel
theorem dX6_rules_18 : decode cX6_rules 18 = .ok (.istore_n 3, 1) := by decide +kernel
theorem dX6_rules_19 : decode cX6_rules 19 = .ok (.iload_n 1, 1) := by decide +kernel
theorem dX6_rules_20 : decode cX6_rules 20 = .ok (.iconst 1, 1) := by decide +kernel
theorem dX6_rules_21 : decode cX6_rules 21 = .ok (.if_icmp .ne 16, 3) := by decide +kernel
theorem dX6_rules_24 : decode cX6_rules 24 = .ok (.iload_n 2, 1) := by decide +kernel
theorem dX6_rules_25 : decode cX6_rules 25 = .ok (.ifCond .lt 12, 3) := by decide +kernel
theorem dX6_rules_28 : decode cX6_rules 28 = .ok (.iload_n 2, 1) := by decide +kernel
theorem dX6_rules_29 : decode cX6_rules 29 = .ok (.iconst 4, 1) := by decide +kernel
theorem dX6_rules_30 : decode cX6_rules 30 = .ok (.if_icmp .ge 7, 3) := by decide +kernel
theorem dX6_rules_33 : decode cX6_rules 33 = .ok (.iconst 1, 1) := by decide +kernel
theorem dX6_rules_34 : decode cX6_rules 34 = .ok (.goto 4, 3) := by decide +kernel
theorem dX6_rules_37 : decode cX6_rules 37 = .ok (.iconst 0, 1) := by decide +kernel
theorem dX6_rules_38 : decode cX6_rules 38 = .ok (.istore 4, 2) := by decide +kernel
theorem dX6_rules_40 : decode cX6_rules 40 = .ok (.iload_n 3, 1) := by decide +kernel
theorem dX6_rules_41 : decode cX6_rules 41 = .ok (.ifCond .ne 15, 3) := by decide +kernel
theorem dX6_rules_44 : decode cX6_rules 44 = .ok (.iload 4, 2) := by decide +kernel
theorem dX6_rules_46 : decode cX6_rules 46 = .ok (.ifCond .ne 10, 3) := by decide +kernel
theorem dX6_rules_49 : decode cX6_rules 49 = .ok (.aload_n 0, 1) := by decide +kernel
theorem dX6_rules_50 : decode cX6_rules 50 = .ok (.bipush (-2), 2) := by decide +kernel
theorem dX6_rules_52 : decode cX6_rules 52 = .ok (.invokevirtual 62, 3) := by decide +kernel
theorem dX6_rules_55 : decode cX6_rules 55 = .ok (.ireturn, 1) := by decide +kernel
theorem dX6_rules_56 : decode cX6_rules 56 = .ok (.aload_n 0, 1) := by decide +kernel
theorem dX6_rules_57 : decode cX6_rules 57 = .ok (.getfield 19, 3) := by decide +kernel
theorem dX6_rules_60 : decode cX6_rules 60 = .ok (.aload_n 0, 1) := by decide +kernel
theorem dX6_rules_61 : decode cX6_rules 61 = .ok (.getfield 10, 3) := by decide +kernel
theorem dX6_rules_64 : decode cX6_rules 64 = .ok (.invokevirtual 66, 3) := by decide +kernel
theorem dX6_rules_67 : decode cX6_rules 67 = .ok (.iload_n 3, 1) := by decide +kernel
theorem dX6_rules_68 : decode cX6_rules 68 = .ok (.ifCond .eq 13, 3) := by decide +kernel
theorem dX6_rules_71 : decode cX6_rules 71 = .ok (.aload_n 0, 1) := by decide +kernel
theorem dX6_rules_72 : decode cX6_rules 72 = .ok (.getfield 10, 3) := by decide +kernel
theorem dX6_rules_75 : decode cX6_rules 75 = .ok (.getfield 96, 3) := by decide +kernel
theorem dX6_rules_78 : decode cX6_rules 78 = .ok (.goto 10, 3) := by decide +kernel
theorem dX6_rules_81 : decode cX6_rules 81 = .ok (.aload_n 0, 1) := by decide +kernel
theorem dX6_rules_82 : decode cX6_rules 82 = .ok (.getfield 10, 3) := by decide +kernel
theorem dX6_rules_85 : decode cX6_rules 85 = .ok (.getfield 99, 3) := by decide +kernel
theorem dX6_rules_88 : decode cX6_rules 88 = .ok (.istore 5, 2) := by decide +kernel
theorem dX6_rules_90 : decode cX6_rules 90 = .ok (.iload_n 3, 1) := by decide +kernel
theorem dX6_rules_91 : decode cX6_rules 91 = .ok (.ifCond .eq 14, 3) := by decide +kernel
theorem dX6_rules_94 : decode cX6_rules 94 = .ok (.aload_n 0, 1) := by decide +kernel
theorem dX6_rules_95 : decode cX6_rules 95 = .ok (.getfield 10, 3) := by decide +kernel
theorem dX6_rules_98 : decode cX6_rules 98 = .ok (.iload_n 2, 1) := by decide +kernel
theorem dX6_rules_99 : decode cX6_rules 99 = .ok (.putfield 96, 3) := by decide +kernel
theorem dX6_rules_102 : decode cX6_rules 102 = .ok (.goto 11, 3) := by decide +kernel
theorem dX6_rules_105 : decode cX6_rules 105 = .ok (.aload_n 0, 1) := by decide +kernel
theorem dX6_rules_106 : decode cX6_rules 106 = .ok (.getfield 10, 3) := by decide +kernel
theorem dX6_rules_109 : decode cX6_rules 109 = .ok (.iload_n 2, 1) := by decide +kernel
theorem dX6_rules_110 : decode cX6_rules 110 = .ok (.putfield 99, 3) := by decide +kernel
theorem dX6_rules_113 : decode cX6_rules 113 = .ok (.iload 5, 2) := by decide +kernel
theorem dX6_rules_115 : decode cX6_rules 115 = .ok (.ireturn, 1) := by decide +kernel
theorem dX6_empties_0 : decode cX6_empties 0 = .ok (.aload_n 0, 1) := by decide +kernel
theorem dX6_empties_1 : decode cX6_empties 1 = .ok (.getfield 19, 3) := by decide +kernel
theorem dX6_empties_4 : decode cX6_empties 4 = .ok (.aload_n 0, 1) := by decide +kernel
theorem dX6_empties_5 : decode cX6_empties 5 = .ok (.getfield 10, 3) := by decide +kernel
theorem dX6_empties_8 : decode cX6_empties 8 = .ok (.invokevirtual 66, 3) := by decide +kernel
theorem dX6_empties_11 : decode cX6_empties 11 = .ok (.aload_n 0, 1) := by decide +kernel
theorem dX6_empties_12 : decode cX6_empties 12 = .ok (.getfield 10, 3) := by decide +kernel
theorem dX6_empties_15 : decode cX6_empties 15 = .ok (.getfield 73, 3) := by decide +kernel
theorem dX6_empties_18 : decode cX6_empties 18 = .ok (.istore_n 1, 1) := by decide +kernel
theorem dX6_empties_19 : decode cX6_empties 19 = .ok (.aload_n 0, 1) := by decide +kernel
theorem dX6_empties_20 : decode cX6_empties 20 = .ok (.getfield 10, 3) := by decide +kernel
theorem dX6_empties_23 : decode cX6_empties 23 = .ok (.iconst 0, 1) := by decide +kernel
theorem dX6_empties_24 : decode cX6_empties 24 = .ok (.putfield 73, 3) := by decide +kernel
theorem dX6_empties_27 : decode cX6_empties 27 = .ok (.iload_n 1, 1) := by decide +kernel
theorem dX6_empties_28 : decode cX6_empties 28 = .ok (.ireturn, 1) := by decide +kernel
theorem dX6_fills_0 : decode cX6_fills 0 = .ok (.iload_n 1, 1) := by decide +kernel
theorem dX6_fills_1 : decode cX6_fills 1 = .ok (.ifCond .lt 18, 3) := by decide +kernel
theorem dX6_fills_4 : decode cX6_fills 4 = .ok (.iload_n 1, 1) := by decide +kernel
theorem dX6_fills_5 : decode cX6_fills 5 = .ok (.iconst 3, 1) := by decide +kernel
theorem dX6_fills_6 : decode cX6_fills 6 = .ok (.if_icmp .gt 13, 3) := by decide +kernel
theorem dX6_fills_9 : decode cX6_fills 9 = .ok (.iload_n 2, 1) := by decide +kernel
theorem dX6_fills_10 : decode cX6_fills 10 = .ok (.ifCond .lt 9, 3) := by decide +kernel
theorem dX6_fills_13 : decode cX6_fills 13 = .ok (.iload_n 2, 1) := by decide +kernel
theorem dX6_fills_14 : decode cX6_fills 14 = .ok (.ldc 102, 2) := by decide +kernel
theorem dX6_fills_16 : decode cX6_fills 16 = .ok (.if_icmp .le 10, 3) := by decide +kernel
theorem dX6_fills_19 : decode cX6_fills 19 = .ok (.aload_n 0, 1) := by decide +kernel
theorem dX6_fills_20 : decode cX6_fills 20 = .ok (.bipush (-2), 2) := by decide +kernel
theorem dX6_fills_22 : decode cX6_fills 22 = .ok (.invokevirtual 62, 3) := by decide +kernel
theorem dX6_fills_25 : decode cX6_fills 25 = .ok (.ireturn, 1) := by decide +kernel
theorem dX6_fills_26 : decode cX6_fills 26 = .ok (.aload_n 0, 1) := by decide +kernel
theorem dX6_fills_27 : decode cX6_fills 27 = .ok (.getfield 19, 3) := by decide +kernel
theorem dX6_fills_30 : decode cX6_fills 30 = .ok (.aload_n 0, 1) := by decide +kernel
theorem dX6_fills_31 : decode cX6_fills 31 = .ok (.getfield 10, 3) := by decide +kernel
theorem dX6_fills_34 : decode cX6_fills 34 = .ok (.invokevirtual 66, 3) := by decide +kernel
theorem dX6_fills_37 : decode cX6_fills 37 = .ok (.aload_n 0, 1) := by decide +kernel
theorem dX6_fills_38 : decode cX6_fills 38 = .ok (.getfield 10, 3) := by decide +kernel
theorem dX6_fills_41 : decode cX6_fills 41 = .ok (.iconst 0, 1) := by decide +kernel
theorem dX6_fills_42 : decode cX6_fills 42 = .ok (.putfield 73, 3) := by decide +kernel
theorem dX6_fills_45 : decode cX6_fills 45 = .ok (.aload_n 0, 1) := by decide +kernel
theorem dX6_fills_46 : decode cX6_fills 46 = .ok (.getfield 10, 3) := by decide +kernel
theorem dX6_fills_49 : decode cX6_fills 49 = .ok (.invokevirtual 103, 3) := by decide +kernel
theorem dX6_fills_52 : decode cX6_fills 52 = .ok (.istore_n 3, 1) := by decide +kernel
theorem dX6_fills_53 : decode cX6_fills 53 = .ok (.iload_n 2, 1) := by decide +kernel
theorem dX6_fills_54 : decode cX6_fills 54 = .ok (.i2l, 1) := by decide +kernel
theorem dX6_fills_55 : decode cX6_fills 55 = .ok (.lstore 4, 2) := by decide +kernel
theorem dX6_fills_57 : decode cX6_fills 57 = .ok (.iconst 0, 1) := by decide +kernel
theorem dX6_fills_58 : decode cX6_fills 58 = .ok (.istore 6, 2) := by decide +kernel
theorem dX6_fills_60 : decode cX6_fills 60 = .ok (.iload 6, 2) := by decide +kernel
theorem dX6_fills_62 : decode cX6_fills 62 = .ok (.iload_n 3, 1) := by decide +kernel
theorem dX6_fills_63 : decode cX6_fills 63 = .ok (.if_icmp .ge 87, 3) := by decide +kernel
theorem dX6_fills_66 : decode cX6_fills 66 = .ok (.lload 4, 2) := by decide +kernel
theorem dX6_fills_68 : decode cX6_fills 68 = .ok (.ldc2_w 107, 3) := by decide +kernel
theorem dX6_fills_71 : decode cX6_fills 71 = .ok (.lmul, 1) := by decide +kernel
theorem dX6_fills_72 : decode cX6_fills 72 = .ok (.ldc2_w 109, 3) := by decide +kernel
theorem dX6_fills_75 : decode cX6_fills 75 = .ok (.ladd, 1) := by decide +kernel
theorem dX6_fills_76 : decode cX6_fills 76 = .ok (.ldc2_w 111, 3) := by decide +kernel
theorem dX6_fills_79 : decode cX6_fills 79 = .ok (.lrem, 1) := by decide +kernel
theorem dX6_fills_80 : decode cX6_fills 80 = .ok (.lstore 4, 2) := by decide +kernel
theorem dX6_fills_82 : decode cX6_fills 82 = .ok (.iload_n 1, 1) := by decide +kernel
theorem dX6_fills_83 : decode cX6_fills 83 = .ok (.iconst 3, 1) := by decide +kernel
theorem dX6_fills_84 : decode cX6_fills 84 = .ok (.if_icmp .ne 16, 3) := by decide +kernel
theorem dX6_fills_87 : decode cX6_fills 87 = .ok (.lload 4, 2) := by decide +kernel
theorem dX6_fills_89 : decode cX6_fills 89 = .ok (.ldc2_w 113, 3) := by decide +kernel
theorem dX6_fills_92 : decode cX6_fills 92 = .ok (.ldiv, 1) := by decide +kernel
theorem dX6_fills_93 : decode cX6_fills 93 = .ok (.iload_n 3, 1) := by decide +kernel
theorem dX6_fills_94 : decode cX6_fills 94 = .ok (.i2l, 1) := by decide +kernel
theorem dX6_fills_95 : decode cX6_fills 95 = .ok (.lrem, 1) := by decide +kernel
theorem dX6_fills_96 : decode cX6_fills 96 = .ok (.l2i, 1) := by decide +kernel
theorem dX6_fills_97 : decode cX6_fills 97 = .ok (.goto 13, 3) := by decide +kernel
theorem dX6_fills_100 : decode cX6_fills 100 = .ok (.aload_n 0, 1) := by decide +kernel
theorem dX6_fills_101 : decode cX6_fills 101 = .ok (.getfield 10, 3) := by decide +kernel
theorem dX6_fills_104 : decode cX6_fills 104 = .ok (.iload 6, 2) := by decide +kernel
theorem dX6_fills_106 : decode cX6_fills 106 = .ok (.iload_n 1, 1) := by decide +kernel
theorem dX6_fills_107 : decode cX6_fills 107 = .ok (.invokevirtual 115, 3) := by decide +kernel
theorem dX6_fills_110 : decode cX6_fills 110 = .ok (.istore 7, 2) := by decide +kernel
theorem dX6_fills_112 : decode cX6_fills 112 = .ok (.aload_n 0, 1) := by decide +kernel
theorem dX6_fills_113 : decode cX6_fills 113 = .ok (.getfield 10, 3) := by decide +kernel
theorem dX6_fills_116 : decode cX6_fills 116 = .ok (.iload 6, 2) := by decide +kernel
theorem dX6_fills_118 : decode cX6_fills 118 = .ok (.iload 7, 2) := by decide +kernel
theorem dX6_fills_120 : decode cX6_fills 120 = .ok (.lload 4, 2) := by decide +kernel
theorem dX6_fills_122 : decode cX6_fills 122 = .ok (.ldc2_w 118, 3) := by decide +kernel
theorem dX6_fills_125 : decode cX6_fills 125 = .ok (.ldiv, 1) := by decide +kernel
theorem dX6_fills_126 : decode cX6_fills 126 = .ok (.iload_n 3, 1) := by decide +kernel
theorem dX6_fills_127 : decode cX6_fills 127 = .ok (.i2l, 1) := by decide +kernel
theorem dX6_fills_128 : decode cX6_fills 128 = .ok (.lrem, 1) := by decide +kernel
theorem dX6_fills_129 : decode cX6_fills 129 = .ok (.l2i, 1) := by decide +kernel
theorem dX6_fills_130 : decode cX6_fills 130 = .ok (.lload 4, 2) := by decide +kernel
theorem dX6_fills_132 : decode cX6_fills 132 = .ok (.ldc2_w 120, 3) := by decide +kernel
theorem dX6_fills_135 : decode cX6_fills 135 = .ok (.ldiv, 1) := by decide +kernel
theorem dX6_fills_136 : decode cX6_fills 136 = .ok (.ldc2_w 122, 3) := by decide +kernel
theorem dX6_fills_139 : decode cX6_fills 139 = .ok (.lrem, 1) := by decide +kernel
theorem dX6_fills_140 : decode cX6_fills 140 = .ok (.l2i, 1) := by decide +kernel
theorem dX6_fills_141 : decode cX6_fills 141 = .ok (.invokevirtual 80, 3) := by decide +kernel
theorem dX6_fills_144 : decode cX6_fills 144 = .ok (.iinc 6 1, 3) := by decide +kernel
theorem dX6_fills_147 : decode cX6_fills 147 = .ok (.goto (-87), 3) := by decide +kernel
theorem dX6_fills_150 : decode cX6_fills 150 = .ok (.aload_n 0, 1) := by decide +kernel
theorem dX6_fills_151 : decode cX6_fills 151 = .ok (.getfield 10, 3) := by decide +kernel
theorem dX6_fills_154 : decode cX6_fills 154 = .ok (.getfield 73, 3) := by decide +kernel
theorem dX6_fills_157 : decode cX6_fills 157 = .ok (.ireturn, 1) := by decide +kernel
theorem dX6_of_0 : decode cX6_of 0 = .ok (.aload_n 0, 1) := by decide +kernel
theorem dX6_of_1 : decode cX6_of 1 = .ok (.getfield 10, 3) := by decide +kernel
theorem dX6_of_4 : decode cX6_of 4 = .ok (.iload_n 1, 1) := by decide +kernel
theorem dX6_of_5 : decode cX6_of 5 = .ok (.invokevirtual 84, 3) := by decide +kernel
theorem dX6_of_8 : decode cX6_of 8 = .ok (.ifCond .eq 12, 3) := by decide +kernel
theorem dX6_of_11 : decode cX6_of 11 = .ok (.iload_n 2, 1) := by decide +kernel
theorem dX6_of_12 : decode cX6_of 12 = .ok (.ifCond .lt 8, 3) := by decide +kernel
theorem dX6_of_15 : decode cX6_of 15 = .ok (.iload_n 2, 1) := by decide +kernel
theorem dX6_of_16 : decode cX6_of 16 = .ok (.iconst 5, 1) := by decide +kernel
theorem dX6_of_17 : decode cX6_of 17 = .ok (.if_icmp .le 10, 3) := by decide +kernel
theorem dX6_of_20 : decode cX6_of 20 = .ok (.aload_n 0, 1) := by decide +kernel
theorem dX6_of_21 : decode cX6_of 21 = .ok (.bipush (-2), 2) := by decide +kernel
theorem dX6_of_23 : decode cX6_of 23 = .ok (.invokevirtual 62, 3) := by decide +kernel
theorem dX6_of_26 : decode cX6_of 26 = .ok (.ireturn, 1) := by decide +kernel
theorem dX6_of_27 : decode cX6_of 27 = .ok (.aload_n 0, 1) := by decide +kernel
theorem dX6_of_28 : decode cX6_of 28 = .ok (.getfield 26, 3) := by decide +kernel
theorem dX6_of_31 : decode cX6_of 31 = .ok (.aload_n 0, 1) := by decide +kernel
theorem dX6_of_32 : decode cX6_of 32 = .ok (.getfield 10, 3) := by decide +kernel
theorem dX6_of_35 : decode cX6_of 35 = .ok (.invokevirtual 124, 3) := by decide +kernel
theorem dX6_of_38 : decode cX6_of 38 = .ok (.aload_n 0, 1) := by decide +kernel
theorem dX6_of_39 : decode cX6_of 39 = .ok (.iload_n 1, 1) := by decide +kernel
theorem dX6_of_40 : decode cX6_of 40 = .ok (.iload_n 2, 1) := by decide +kernel
theorem dX6_of_41 : decode cX6_of 41 = .ok (.invokevirtual 127, 3) := by decide +kernel
theorem dX6_of_44 : decode cX6_of 44 = .ok (.ireturn, 1) := by decide +kernel
theorem dX6_step_0 : decode cX6_step 0 = .ok (.aload_n 0, 1) := by decide +kernel
theorem dX6_step_1 : decode cX6_step 1 = .ok (.getfield 10, 3) := by decide +kernel
theorem dX6_step_4 : decode cX6_step 4 = .ok (.iload_n 1, 1) := by decide +kernel
theorem dX6_step_5 : decode cX6_step 5 = .ok (.invokevirtual 84, 3) := by decide +kernel
theorem dX6_step_8 : decode cX6_step 8 = .ok (.ifCond .eq 7, 3) := by decide +kernel
theorem dX6_step_11 : decode cX6_step 11 = .ok (.iload_n 2, 1) := by decide +kernel
theorem dX6_step_12 : decode cX6_step 12 = .ok (.ifCond .ge 10, 3) := by decide +kernel
theorem dX6_step_15 : decode cX6_step 15 = .ok (.aload_n 0, 1) := by decide +kernel
theorem dX6_step_16 : decode cX6_step 16 = .ok (.bipush (-2), 2) := by decide +kernel
theorem dX6_step_18 : decode cX6_step 18 = .ok (.invokevirtual 62, 3) := by decide +kernel
theorem dX6_step_21 : decode cX6_step 21 = .ok (.ireturn, 1) := by decide +kernel
theorem dX6_step_22 : decode cX6_step 22 = .ok (.aload_n 0, 1) := by decide +kernel
theorem dX6_step_23 : decode cX6_step 23 = .ok (.getfield 26, 3) := by decide +kernel
theorem dX6_step_26 : decode cX6_step 26 = .ok (.aload_n 0, 1) := by decide +kernel
theorem dX6_step_27 : decode cX6_step 27 = .ok (.getfield 10, 3) := by decide +kernel
theorem dX6_step_30 : decode cX6_step 30 = .ok (.invokevirtual 124, 3) := by decide +kernel
theorem dX6_step_33 : decode cX6_step 33 = .ok (.iload_n 2, 1) := by decide +kernel
theorem dX6_step_34 : decode cX6_step 34 = .ok (.aload_n 0, 1) := by decide +kernel
theorem dX6_step_35 : decode cX6_step 35 = .ok (.getfield 26, 3) := by decide +kernel
theorem dX6_step_38 : decode cX6_step 38 = .ok (.getfield 130, 3) := by decide +kernel
theorem dX6_step_41 : decode cX6_step 41 = .ok (.iload_n 1, 1) := by decide +kernel
theorem dX6_step_42 : decode cX6_step 42 = .ok (.iaload, 1) := by decide +kernel
theorem dX6_step_43 : decode cX6_step 43 = .ok (.if_icmp .le 8, 3) := by decide +kernel
theorem dX6_step_46 : decode cX6_step 46 = .ok (.bipush (-5), 2) := by decide +kernel
theorem dX6_step_48 : decode cX6_step 48 = .ok (.goto 16, 3) := by decide +kernel
theorem dX6_step_51 : decode cX6_step 51 = .ok (.aload_n 0, 1) := by decide +kernel
theorem dX6_step_52 : decode cX6_step 52 = .ok (.getfield 26, 3) := by decide +kernel
theorem dX6_step_55 : decode cX6_step 55 = .ok (.aload_n 0, 1) := by decide +kernel
theorem dX6_step_56 : decode cX6_step 56 = .ok (.getfield 10, 3) := by decide +kernel
theorem dX6_step_59 : decode cX6_step 59 = .ok (.iload_n 1, 1) := by decide +kernel
theorem dX6_step_60 : decode cX6_step 60 = .ok (.iload_n 2, 1) := by decide +kernel
theorem dX6_step_61 : decode cX6_step 61 = .ok (.invokevirtual 133, 3) := by decide +kernel
theorem dX6_step_64 : decode cX6_step 64 = .ok (.ireturn, 1) := by decide +kernel
theorem dX6_load_0 : decode cX6_load 0 = .ok (.aload_n 0, 1) := by decide +kernel
theorem dX6_load_1 : decode cX6_load 1 = .ok (.getfield 10, 3) := by decide +kernel
theorem dX6_load_4 : decode cX6_load 4 = .ok (.iload_n 1, 1) := by decide +kernel
theorem dX6_load_5 : decode cX6_load 5 = .ok (.iload_n 2, 1) := by decide +kernel
theorem dX6_load_6 : decode cX6_load 6 = .ok (.invokevirtual 137, 3) := by decide +kernel
theorem dX6_load_9 : decode cX6_load 9 = .ok (.ifCond .ne 10, 3) := by decide +kernel
theorem dX6_load_12 : decode cX6_load 12 = .ok (.aload_n 0, 1) := by decide +kernel
theorem dX6_load_13 : decode cX6_load 13 = .ok (.bipush (-2), 2) := by decide +kernel
theorem dX6_load_15 : decode cX6_load 15 = .ok (.invokevirtual 62, 3) := by decide +kernel
theorem dX6_load_18 : decode cX6_load 18 = .ok (.ireturn, 1) := by decide +kernel
theorem dX6_load_19 : decode cX6_load 19 = .ok (.aload_n 0, 1) := by decide +kernel
theorem dX6_load_20 : decode cX6_load 20 = .ok (.invokevirtual 140, 3) := by decide +kernel
theorem dX6_load_23 : decode cX6_load 23 = .ok (.aload_n 0, 1) := by decide +kernel
theorem dX6_load_24 : decode cX6_load 24 = .ok (.getfield 33, 3) := by decide +kernel
theorem dX6_load_27 : decode cX6_load 27 = .ok (.getfield 143, 3) := by decide +kernel
theorem dX6_load_30 : decode cX6_load 30 = .ok (.iload_n 1, 1) := by decide +kernel
theorem dX6_load_31 : decode cX6_load 31 = .ok (.iconst 4, 1) := by decide +kernel
theorem dX6_load_32 : decode cX6_load 32 = .ok (.imul, 1) := by decide +kernel
theorem dX6_load_33 : decode cX6_load 33 = .ok (.iload_n 2, 1) := by decide +kernel
theorem dX6_load_34 : decode cX6_load 34 = .ok (.iadd, 1) := by decide +kernel
theorem dX6_load_35 : decode cX6_load 35 = .ok (.iaload, 1) := by decide +kernel
theorem dX6_load_36 : decode cX6_load 36 = .ok (.ireturn, 1) := by decide +kernel
theorem dX6_loads_0 : decode cX6_loads 0 = .ok (.iload_n 1, 1) := by decide +kernel
theorem dX6_loads_1 : decode cX6_loads 1 = .ok (.ifCond .lt 8, 3) := by decide +kernel
theorem dX6_loads_4 : decode cX6_loads 4 = .ok (.iload_n 1, 1) := by decide +kernel
theorem dX6_loads_5 : decode cX6_loads 5 = .ok (.iconst 3, 1) := by decide +kernel
theorem dX6_loads_6 : decode cX6_loads 6 = .ok (.if_icmp .le 10, 3) := by decide +kernel
theorem dX6_loads_9 : decode cX6_loads 9 = .ok (.aload_n 0, 1) := by decide +kernel
theorem dX6_loads_10 : decode cX6_loads 10 = .ok (.bipush (-2), 2) := by decide +kernel
theorem dX6_loads_12 : decode cX6_loads 12 = .ok (.invokevirtual 62, 3) := by decide +kernel
theorem dX6_loads_15 : decode cX6_loads 15 = .ok (.ireturn, 1) := by decide +kernel
theorem dX6_loads_16 : decode cX6_loads 16 = .ok (.aload_n 0, 1) := by decide +kernel
theorem dX6_loads_17 : decode cX6_loads 17 = .ok (.invokevirtual 140, 3) := by decide +kernel
theorem dX6_loads_20 : decode cX6_loads 20 = .ok (.aload_n 0, 1) := by decide +kernel
theorem dX6_loads_21 : decode cX6_loads 21 = .ok (.iload_n 1, 1) := by decide +kernel
theorem dX6_loads_22 : decode cX6_loads 22 = .ok (.invokevirtual 146, 3) := by decide +kernel
theorem dX6_loads_25 : decode cX6_loads 25 = .ok (.ireturn, 1) := by decide +kernel
theorem dX6_expected_0 : decode cX6_expected 0 = .ok (.aload_n 0, 1) := by decide +kernel
theorem dX6_expected_1 : decode cX6_expected 1 = .ok (.getfield 10, 3) := by decide +kernel
theorem dX6_expected_4 : decode cX6_expected 4 = .ok (.iload_n 1, 1) := by decide +kernel
theorem dX6_expected_5 : decode cX6_expected 5 = .ok (.iload_n 2, 1) := by decide +kernel
theorem dX6_expected_6 : decode cX6_expected 6 = .ok (.invokevirtual 137, 3) := by decide +kernel
theorem dX6_expected_9 : decode cX6_expected 9 = .ok (.ifCond .eq 13, 3) := by decide +kernel
theorem dX6_expected_12 : decode cX6_expected 12 = .ok (.iload_n 3, 1) := by decide +kernel
theorem dX6_expected_13 : decode cX6_expected 13 = .ok (.ifCond .lt 9, 3) := by decide +kernel
theorem dX6_expected_16 : decode cX6_expected 16 = .ok (.iload_n 3, 1) := by decide +kernel
theorem dX6_expected_17 : decode cX6_expected 17 = .ok (.bipush 16, 2) := by decide +kernel
theorem dX6_expected_19 : decode cX6_expected 19 = .ok (.if_icmp .le 10, 3) := by decide +kernel
theorem dX6_expected_22 : decode cX6_expected 22 = .ok (.aload_n 0, 1) := by decide +kernel
theorem dX6_expected_23 : decode cX6_expected 23 = .ok (.bipush (-2), 2) := by decide +kernel
theorem dX6_expected_25 : decode cX6_expected 25 = .ok (.invokevirtual 62, 3) := by decide +kernel
theorem dX6_expected_28 : decode cX6_expected 28 = .ok (.ireturn, 1) := by decide +kernel
theorem dX6_expected_29 : decode cX6_expected 29 = .ok (.aload_n 0, 1) := by decide +kernel
theorem dX6_expected_30 : decode cX6_expected 30 = .ok (.iload_n 3, 1) := by decide +kernel
theorem dX6_expected_31 : decode cX6_expected 31 = .ok (.invokevirtual 149, 3) := by decide +kernel
theorem dX6_expected_34 : decode cX6_expected 34 = .ok (.aload_n 0, 1) := by decide +kernel
theorem dX6_expected_35 : decode cX6_expected 35 = .ok (.aload_n 0, 1) := by decide +kernel
theorem dX6_expected_36 : decode cX6_expected 36 = .ok (.getfield 33, 3) := by decide +kernel
theorem dX6_expected_39 : decode cX6_expected 39 = .ok (.getfield 143, 3) := by decide +kernel
theorem dX6_expected_42 : decode cX6_expected 42 = .ok (.iload_n 1, 1) := by decide +kernel
theorem dX6_expected_43 : decode cX6_expected 43 = .ok (.iconst 4, 1) := by decide +kernel
theorem dX6_expected_44 : decode cX6_expected 44 = .ok (.imul, 1) := by decide +kernel
theorem dX6_expected_45 : decode cX6_expected 45 = .ok (.iload_n 2, 1) := by decide +kernel
theorem dX6_expected_46 : decode cX6_expected 46 = .ok (.iadd, 1) := by decide +kernel
theorem dX6_expected_47 : decode cX6_expected 47 = .ok (.iaload, 1) := by decide +kernel
theorem dX6_expected_48 : decode cX6_expected 48 = .ok (.invokevirtual 153, 3) := by decide +kernel
theorem dX6_expected_51 : decode cX6_expected 51 = .ok (.iconst 1, 1) := by decide +kernel
theorem dX6_expected_52 : decode cX6_expected 52 = .ok (.ireturn, 1) := by decide +kernel
theorem dX6_part_0 : decode cX6_part 0 = .ok (.iload_n 1, 1) := by decide +kernel
theorem dX6_part_1 : decode cX6_part 1 = .ok (.ifCond .lt 8, 3) := by decide +kernel
theorem dX6_part_4 : decode cX6_part 4 = .ok (.iload_n 1, 1) := by decide +kernel
theorem dX6_part_5 : decode cX6_part 5 = .ok (.iconst 1, 1) := by decide +kernel
theorem dX6_part_6 : decode cX6_part 6 = .ok (.if_icmp .le 10, 3) := by decide +kernel
theorem dX6_part_9 : decode cX6_part 9 = .ok (.aload_n 0, 1) := by decide +kernel
theorem dX6_part_10 : decode cX6_part 10 = .ok (.bipush (-2), 2) := by decide +kernel
theorem dX6_part_12 : decode cX6_part 12 = .ok (.invokevirtual 62, 3) := by decide +kernel
theorem dX6_part_15 : decode cX6_part 15 = .ok (.ireturn, 1) := by decide +kernel
theorem dX6_part_16 : decode cX6_part 16 = .ok (.iload_n 1, 1) := by decide +kernel
theorem dX6_part_17 : decode cX6_part 17 = .ok (.ifCond .ne 10, 3) := by decide +kernel
theorem dX6_part_20 : decode cX6_part 20 = .ok (.aload_n 0, 1) := by decide +kernel
theorem dX6_part_21 : decode cX6_part 21 = .ok (.getfield 55, 3) := by decide +kernel
theorem dX6_part_24 : decode cX6_part 24 = .ok (.goto 7, 3) := by decide +kernel
theorem dX6_part_27 : decode cX6_part 27 = .ok (.aload_n 0, 1) := by decide +kernel
theorem dX6_part_28 : decode cX6_part 28 = .ok (.getfield 59, 3) := by decide +kernel
theorem dX6_part_31 : decode cX6_part 31 = .ok (.ireturn, 1) := by decide +kernel
theorem dX6_greatest_0 : decode cX6_greatest 0 = .ok (.aload_n 0, 1) := by decide +kernel
theorem dX6_greatest_1 : decode cX6_greatest 1 = .ok (.getfield 10, 3) := by decide +kernel
theorem dX6_greatest_4 : decode cX6_greatest 4 = .ok (.getfield 73, 3) := by decide +kernel
theorem dX6_greatest_7 : decode cX6_greatest 7 = .ok (.ifCond .ne 10, 3) := by decide +kernel
theorem dX6_greatest_10 : decode cX6_greatest 10 = .ok (.aload_n 0, 1) := by decide +kernel
theorem dX6_greatest_11 : decode cX6_greatest 11 = .ok (.bipush (-3), 2) := by decide +kernel
theorem dX6_greatest_13 : decode cX6_greatest 13 = .ok (.invokevirtual 62, 3) := by decide +kernel
theorem dX6_greatest_16 : decode cX6_greatest 16 = .ok (.ireturn, 1) := by decide +kernel
theorem dX6_greatest_17 : decode cX6_greatest 17 = .ok (.aload_n 0, 1) := by decide +kernel
theorem dX6_greatest_18 : decode cX6_greatest 18 = .ok (.iconst 0, 1) := by decide +kernel
theorem dX6_greatest_19 : decode cX6_greatest 19 = .ok (.invokevirtual 149, 3) := by decide +kernel
theorem dX6_greatest_22 : decode cX6_greatest 22 = .ok (.aload_n 0, 1) := by decide +kernel
theorem dX6_greatest_23 : decode cX6_greatest 23 = .ok (.getfield 33, 3) := by decide +kernel
theorem dX6_greatest_26 : decode cX6_greatest 26 = .ok (.invokevirtual 156, 3) := by decide +kernel
theorem dX6_greatest_29 : decode cX6_greatest 29 = .ok (.istore_n 1, 1) := by decide +kernel
theorem dX6_greatest_30 : decode cX6_greatest 30 = .ok (.aload_n 0, 1) := by decide +kernel
theorem dX6_greatest_31 : decode cX6_greatest 31 = .ok (.aload_n 0, 1) := by decide +kernel
theorem dX6_greatest_32 : decode cX6_greatest 32 = .ok (.getfield 33, 3) := by decide +kernel
theorem dX6_greatest_35 : decode cX6_greatest 35 = .ok (.getfield 143, 3) := by decide +kernel
theorem dX6_greatest_38 : decode cX6_greatest 38 = .ok (.iload_n 1, 1) := by decide +kernel
theorem dX6_greatest_39 : decode cX6_greatest 39 = .ok (.iaload, 1) := by decide +kernel
theorem dX6_greatest_40 : decode cX6_greatest 40 = .ok (.invokevirtual 153, 3) := by decide +kernel
theorem dX6_greatest_43 : decode cX6_greatest 43 = .ok (.iload_n 1, 1) := by decide +kernel
theorem dX6_greatest_44 : decode cX6_greatest 44 = .ok (.invokestatic 159, 3) := by decide +kernel
theorem dX6_greatest_47 : decode cX6_greatest 47 = .ok (.ireturn, 1) := by decide +kernel
theorem dX6_chooses_0 : decode cX6_chooses 0 = .ok (.aload_n 0, 1) := by decide +kernel
theorem dX6_chooses_1 : decode cX6_chooses 1 = .ok (.getfield 10, 3) := by decide +kernel
theorem dX6_chooses_4 : decode cX6_chooses 4 = .ok (.getfield 73, 3) := by decide +kernel
theorem dX6_chooses_7 : decode cX6_chooses 7 = .ok (.ifCond .ne 10, 3) := by decide +kernel
theorem dX6_chooses_10 : decode cX6_chooses 10 = .ok (.aload_n 0, 1) := by decide +kernel
theorem dX6_chooses_11 : decode cX6_chooses 11 = .ok (.bipush (-3), 2) := by decide +kernel
theorem dX6_chooses_13 : decode cX6_chooses 13 = .ok (.invokevirtual 62, 3) := by decide +kernel
theorem dX6_chooses_16 : decode cX6_chooses 16 = .ok (.ireturn, 1) := by decide +kernel
theorem dX6_chooses_17 : decode cX6_chooses 17 = .ok (.aload_n 0, 1) := by decide +kernel
theorem dX6_chooses_18 : decode cX6_chooses 18 = .ok (.getfield 19, 3) := by decide +kernel
theorem dX6_chooses_21 : decode cX6_chooses 21 = .ok (.aload_n 0, 1) := by decide +kernel
theorem dX6_chooses_22 : decode cX6_chooses 22 = .ok (.getfield 10, 3) := by decide +kernel
theorem dX6_chooses_25 : decode cX6_chooses 25 = .ok (.invokevirtual 66, 3) := by decide +kernel
theorem dX6_chooses_28 : decode cX6_chooses 28 = .ok (.aload_n 0, 1) := by decide +kernel
theorem dX6_chooses_29 : decode cX6_chooses 29 = .ok (.iconst 0, 1) := by decide +kernel
theorem dX6_chooses_30 : decode cX6_chooses 30 = .ok (.invokevirtual 149, 3) := by decide +kernel
theorem dX6_chooses_33 : decode cX6_chooses 33 = .ok (.iconst 0, 1) := by decide +kernel
theorem dX6_chooses_34 : decode cX6_chooses 34 = .ok (.istore_n 1, 1) := by decide +kernel
theorem dX6_chooses_35 : decode cX6_chooses 35 = .ok (.iload_n 1, 1) := by decide +kernel
theorem dX6_chooses_36 : decode cX6_chooses 36 = .ok (.aload_n 0, 1) := by decide +kernel
theorem dX6_chooses_37 : decode cX6_chooses 37 = .ok (.getfield 10, 3) := by decide +kernel
theorem dX6_chooses_40 : decode cX6_chooses 40 = .ok (.getfield 73, 3) := by decide +kernel
theorem dX6_chooses_43 : decode cX6_chooses 43 = .ok (.if_icmp .ge 14, 3) := by decide +kernel
theorem dX6_chooses_46 : decode cX6_chooses 46 = .ok (.aload_n 0, 1) := by decide +kernel
theorem dX6_chooses_47 : decode cX6_chooses 47 = .ok (.iload_n 1, 1) := by decide +kernel
theorem dX6_chooses_48 : decode cX6_chooses 48 = .ok (.invokevirtual 162, 3) := by decide +kernel
theorem dX6_chooses_51 : decode cX6_chooses 51 = .ok (.iinc 1 1, 3) := by decide +kernel
theorem dX6_chooses_54 : decode cX6_chooses 54 = .ok (.goto (-19), 3) := by decide +kernel
theorem dX6_chooses_57 : decode cX6_chooses 57 = .ok (.aload_n 0, 1) := by decide +kernel
theorem dX6_chooses_58 : decode cX6_chooses 58 = .ok (.invokevirtual 140, 3) := by decide +kernel
theorem dX6_chooses_61 : decode cX6_chooses 61 = .ok (.aload_n 0, 1) := by decide +kernel
theorem dX6_chooses_62 : decode cX6_chooses 62 = .ok (.iconst 0, 1) := by decide +kernel
theorem dX6_chooses_63 : decode cX6_chooses 63 = .ok (.invokevirtual 146, 3) := by decide +kernel
theorem dX6_chooses_66 : decode cX6_chooses 66 = .ok (.ireturn, 1) := by decide +kernel
theorem dX6_run_0 : decode cX6_run 0 = .ok (.iload_n 1, 1) := by decide +kernel
theorem dX6_run_1 : decode cX6_run 1 = .ok (.ifCond .lt 8, 3) := by decide +kernel
theorem dX6_run_4 : decode cX6_run 4 = .ok (.iload_n 1, 1) := by decide +kernel
theorem dX6_run_5 : decode cX6_run 5 = .ok (.iconst 4, 1) := by decide +kernel
theorem dX6_run_6 : decode cX6_run 6 = .ok (.if_icmp .le 10, 3) := by decide +kernel
theorem dX6_run_9 : decode cX6_run 9 = .ok (.aload_n 0, 1) := by decide +kernel
theorem dX6_run_10 : decode cX6_run 10 = .ok (.bipush (-2), 2) := by decide +kernel
theorem dX6_run_12 : decode cX6_run 12 = .ok (.invokevirtual 62, 3) := by decide +kernel
theorem dX6_run_15 : decode cX6_run 15 = .ok (.ireturn, 1) := by decide +kernel
theorem dX6_run_16 : decode cX6_run 16 = .ok (.aload_n 0, 1) := by decide +kernel
theorem dX6_run_17 : decode cX6_run 17 = .ok (.getfield 26, 3) := by decide +kernel
theorem dX6_run_20 : decode cX6_run 20 = .ok (.aload_n 0, 1) := by decide +kernel
theorem dX6_run_21 : decode cX6_run 21 = .ok (.getfield 10, 3) := by decide +kernel
theorem dX6_run_24 : decode cX6_run 24 = .ok (.invokevirtual 124, 3) := by decide +kernel
theorem dX6_run_27 : decode cX6_run 27 = .ok (.aload_n 0, 1) := by decide +kernel
theorem dX6_run_28 : decode cX6_run 28 = .ok (.getfield 40, 3) := by decide +kernel
theorem dX6_run_31 : decode cX6_run 31 = .ok (.aload_n 0, 1) := by decide +kernel
theorem dX6_run_32 : decode cX6_run 32 = .ok (.getfield 10, 3) := by decide +kernel
theorem dX6_run_35 : decode cX6_run 35 = .ok (.aload_n 0, 1) := by decide +kernel
theorem dX6_run_36 : decode cX6_run 36 = .ok (.getfield 26, 3) := by decide +kernel
theorem dX6_run_39 : decode cX6_run 39 = .ok (.aload_n 0, 1) := by decide +kernel
theorem dX6_run_40 : decode cX6_run 40 = .ok (.getfield 10, 3) := by decide +kernel
theorem dX6_run_43 : decode cX6_run 43 = .ok (.getfield 99, 3) := by decide +kernel
theorem dX6_run_46 : decode cX6_run 46 = .ok (.sipush 400, 3) := by decide +kernel
theorem dX6_run_49 : decode cX6_run 49 = .ok (.invokevirtual 165, 3) := by decide +kernel
theorem dX6_run_52 : decode cX6_run 52 = .ok (.aload_n 0, 1) := by decide +kernel
theorem dX6_run_53 : decode cX6_run 53 = .ok (.iload_n 1, 1) := by decide +kernel
theorem dX6_run_54 : decode cX6_run 54 = .ok (.invokevirtual 169, 3) := by decide +kernel
theorem dX6_run_57 : decode cX6_run 57 = .ok (.ireturn, 1) := by decide +kernel
theorem dX6_ran_0 : decode cX6_ran 0 = .ok (.aload_n 0, 1) := by decide +kernel
theorem dX6_ran_1 : decode cX6_ran 1 = .ok (.getfield 10, 3) := by decide +kernel
theorem dX6_ran_4 : decode cX6_ran 4 = .ok (.iload_n 1, 1) := by decide +kernel
theorem dX6_ran_5 : decode cX6_ran 5 = .ok (.invokevirtual 84, 3) := by decide +kernel
theorem dX6_ran_8 : decode cX6_ran 8 = .ok (.ifCond .eq 12, 3) := by decide +kernel
theorem dX6_ran_11 : decode cX6_ran 11 = .ok (.iload_n 2, 1) := by decide +kernel
theorem dX6_ran_12 : decode cX6_ran 12 = .ok (.ifCond .lt 8, 3) := by decide +kernel
theorem dX6_ran_15 : decode cX6_ran 15 = .ok (.iload_n 2, 1) := by decide +kernel
theorem dX6_ran_16 : decode cX6_ran 16 = .ok (.iconst 2, 1) := by decide +kernel
theorem dX6_ran_17 : decode cX6_ran 17 = .ok (.if_icmp .le 10, 3) := by decide +kernel
theorem dX6_ran_20 : decode cX6_ran 20 = .ok (.aload_n 0, 1) := by decide +kernel
theorem dX6_ran_21 : decode cX6_ran 21 = .ok (.bipush (-2), 2) := by decide +kernel
theorem dX6_ran_23 : decode cX6_ran 23 = .ok (.invokevirtual 62, 3) := by decide +kernel
theorem dX6_ran_26 : decode cX6_ran 26 = .ok (.ireturn, 1) := by decide +kernel
theorem dX6_ran_27 : decode cX6_ran 27 = .ok (.iload_n 2, 1) := by decide +kernel
theorem dX6_ran_28 : decode cX6_ran 28 = .ok (.iconst 2, 1) := by decide +kernel
theorem dX6_ran_29 : decode cX6_ran 29 = .ok (.if_icmp .ne 21, 3) := by decide +kernel
theorem dX6_ran_32 : decode cX6_ran 32 = .ok (.iload_n 3, 1) := by decide +kernel
theorem dX6_ran_33 : decode cX6_ran 33 = .ok (.ifCond .lt 10, 3) := by decide +kernel
theorem dX6_ran_36 : decode cX6_ran 36 = .ok (.iload_n 3, 1) := by decide +kernel
theorem dX6_ran_37 : decode cX6_ran 37 = .ok (.sipush 400, 3) := by decide +kernel
theorem dX6_ran_40 : decode cX6_ran 40 = .ok (.if_icmp .le 10, 3) := by decide +kernel
theorem dX6_ran_43 : decode cX6_ran 43 = .ok (.aload_n 0, 1) := by decide +kernel
theorem dX6_ran_44 : decode cX6_ran 44 = .ok (.bipush (-2), 2) := by decide +kernel
theorem dX6_ran_46 : decode cX6_ran 46 = .ok (.invokevirtual 62, 3) := by decide +kernel
theorem dX6_ran_49 : decode cX6_ran 49 = .ok (.ireturn, 1) := by decide +kernel
theorem dX6_ran_50 : decode cX6_ran 50 = .ok (.aload_n 0, 1) := by decide +kernel
theorem dX6_ran_51 : decode cX6_ran 51 = .ok (.getfield 26, 3) := by decide +kernel
theorem dX6_ran_54 : decode cX6_ran 54 = .ok (.aload_n 0, 1) := by decide +kernel
theorem dX6_ran_55 : decode cX6_ran 55 = .ok (.getfield 10, 3) := by decide +kernel
theorem dX6_ran_58 : decode cX6_ran 58 = .ok (.invokevirtual 124, 3) := by decide +kernel
theorem dX6_ran_61 : decode cX6_ran 61 = .ok (.aload_n 0, 1) := by decide +kernel
theorem dX6_ran_62 : decode cX6_ran 62 = .ok (.getfield 40, 3) := by decide +kernel
theorem dX6_ran_65 : decode cX6_ran 65 = .ok (.aload_n 0, 1) := by decide +kernel
theorem dX6_ran_66 : decode cX6_ran 66 = .ok (.getfield 10, 3) := by decide +kernel
theorem dX6_ran_69 : decode cX6_ran 69 = .ok (.aload_n 0, 1) := by decide +kernel
theorem dX6_ran_70 : decode cX6_ran 70 = .ok (.getfield 26, 3) := by decide +kernel
theorem dX6_ran_73 : decode cX6_ran 73 = .ok (.aload_n 0, 1) := by decide +kernel
theorem dX6_ran_74 : decode cX6_ran 74 = .ok (.getfield 10, 3) := by decide +kernel
theorem dX6_ran_77 : decode cX6_ran 77 = .ok (.getfield 99, 3) := by decide +kernel
theorem dX6_ran_80 : decode cX6_ran 80 = .ok (.iload_n 2, 1) := by decide +kernel
theorem dX6_ran_81 : decode cX6_ran 81 = .ok (.iconst 2, 1) := by decide +kernel
theorem dX6_ran_82 : decode cX6_ran 82 = .ok (.if_icmp .ne 7, 3) := by decide +kernel
theorem dX6_ran_85 : decode cX6_ran 85 = .ok (.iload_n 3, 1) := by decide +kernel
theorem dX6_ran_86 : decode cX6_ran 86 = .ok (.goto 6, 3) := by decide +kernel
theorem dX6_ran_89 : decode cX6_ran 89 = .ok (.sipush 400, 3) := by decide +kernel
theorem dX6_ran_92 : decode cX6_ran 92 = .ok (.invokevirtual 165, 3) := by decide +kernel
theorem dX6_ran_95 : decode cX6_ran 95 = .ok (.iload_n 2, 1) := by decide +kernel
theorem dX6_ran_96 : decode cX6_ran 96 = .ok (.lookupswitch 48 #[(0, 28), (1, 38)], 28) := by decide +kernel
theorem dX6_ran_124 : decode cX6_ran 124 = .ok (.aload_n 0, 1) := by decide +kernel
theorem dX6_ran_125 : decode cX6_ran 125 = .ok (.getfield 40, 3) := by decide +kernel
theorem dX6_ran_128 : decode cX6_ran 128 = .ok (.getfield 172, 3) := by decide +kernel
theorem dX6_ran_131 : decode cX6_ran 131 = .ok (.iload_n 1, 1) := by decide +kernel
theorem dX6_ran_132 : decode cX6_ran 132 = .ok (.iaload, 1) := by decide +kernel
theorem dX6_ran_133 : decode cX6_ran 133 = .ok (.ireturn, 1) := by decide +kernel
theorem dX6_ran_134 : decode cX6_ran 134 = .ok (.aload_n 0, 1) := by decide +kernel
theorem dX6_ran_135 : decode cX6_ran 135 = .ok (.getfield 40, 3) := by decide +kernel
theorem dX6_ran_138 : decode cX6_ran 138 = .ok (.getfield 175, 3) := by decide +kernel
theorem dX6_ran_141 : decode cX6_ran 141 = .ok (.iload_n 1, 1) := by decide +kernel
theorem dX6_ran_142 : decode cX6_ran 142 = .ok (.iaload, 1) := by decide +kernel
theorem dX6_ran_143 : decode cX6_ran 143 = .ok (.ireturn, 1) := by decide +kernel
theorem dX6_ran_144 : decode cX6_ran 144 = .ok (.aload_n 0, 1) := by decide +kernel
theorem dX6_ran_145 : decode cX6_ran 145 = .ok (.getfield 26, 3) := by decide +kernel
theorem dX6_ran_148 : decode cX6_ran 148 = .ok (.aload_n 0, 1) := by decide +kernel
theorem dX6_ran_149 : decode cX6_ran 149 = .ok (.getfield 10, 3) := by decide +kernel
theorem dX6_ran_152 : decode cX6_ran 152 = .ok (.iload_n 1, 1) := by decide +kernel
theorem dX6_ran_153 : decode cX6_ran 153 = .ok (.aload_n 0, 1) := by decide +kernel
theorem dX6_ran_154 : decode cX6_ran 154 = .ok (.getfield 40, 3) := by decide +kernel
theorem dX6_ran_157 : decode cX6_ran 157 = .ok (.getfield 178, 3) := by decide +kernel
theorem dX6_ran_160 : decode cX6_ran 160 = .ok (.iload_n 1, 1) := by decide +kernel
theorem dX6_ran_161 : decode cX6_ran 161 = .ok (.iaload, 1) := by decide +kernel
theorem dX6_ran_162 : decode cX6_ran 162 = .ok (.invokevirtual 133, 3) := by decide +kernel
theorem dX6_ran_165 : decode cX6_ran 165 = .ok (.ireturn, 1) := by decide +kernel
theorem dX6_best_0 : decode cX6_best 0 = .ok (.iload_n 1, 1) := by decide +kernel
theorem dX6_best_1 : decode cX6_best 1 = .ok (.ifCond .lt 8, 3) := by decide +kernel
theorem dX6_best_4 : decode cX6_best 4 = .ok (.iload_n 1, 1) := by decide +kernel
theorem dX6_best_5 : decode cX6_best 5 = .ok (.iconst 1, 1) := by decide +kernel
theorem dX6_best_6 : decode cX6_best 6 = .ok (.if_icmp .le 10, 3) := by decide +kernel
theorem dX6_best_9 : decode cX6_best 9 = .ok (.aload_n 0, 1) := by decide +kernel
theorem dX6_best_10 : decode cX6_best 10 = .ok (.bipush (-2), 2) := by decide +kernel
theorem dX6_best_12 : decode cX6_best 12 = .ok (.invokevirtual 62, 3) := by decide +kernel
theorem dX6_best_15 : decode cX6_best 15 = .ok (.ireturn, 1) := by decide +kernel
theorem dX6_best_16 : decode cX6_best 16 = .ok (.aload_n 0, 1) := by decide +kernel
theorem dX6_best_17 : decode cX6_best 17 = .ok (.getfield 26, 3) := by decide +kernel
theorem dX6_best_20 : decode cX6_best 20 = .ok (.aload_n 0, 1) := by decide +kernel
theorem dX6_best_21 : decode cX6_best 21 = .ok (.getfield 10, 3) := by decide +kernel
theorem dX6_best_24 : decode cX6_best 24 = .ok (.invokevirtual 124, 3) := by decide +kernel
theorem dX6_best_27 : decode cX6_best 27 = .ok (.iconst 0, 1) := by decide +kernel
theorem dX6_best_28 : decode cX6_best 28 = .ok (.istore_n 2, 1) := by decide +kernel
theorem dX6_best_29 : decode cX6_best 29 = .ok (.sipush 400, 3) := by decide +kernel
theorem dX6_best_32 : decode cX6_best 32 = .ok (.istore_n 3, 1) := by decide +kernel
theorem dX6_best_33 : decode cX6_best 33 = .ok (.iconst 0, 1) := by decide +kernel
theorem dX6_best_34 : decode cX6_best 34 = .ok (.istore 4, 2) := by decide +kernel
theorem dX6_best_36 : decode cX6_best 36 = .ok (.iload 4, 2) := by decide +kernel
theorem dX6_best_38 : decode cX6_best 38 = .ok (.iconst 4, 1) := by decide +kernel
theorem dX6_best_39 : decode cX6_best 39 = .ok (.if_icmp .ge 51, 3) := by decide +kernel
theorem dX6_best_42 : decode cX6_best 42 = .ok (.aload_n 0, 1) := by decide +kernel
theorem dX6_best_43 : decode cX6_best 43 = .ok (.getfield 40, 3) := by decide +kernel
theorem dX6_best_46 : decode cX6_best 46 = .ok (.aload_n 0, 1) := by decide +kernel
theorem dX6_best_47 : decode cX6_best 47 = .ok (.getfield 10, 3) := by decide +kernel
theorem dX6_best_50 : decode cX6_best 50 = .ok (.aload_n 0, 1) := by decide +kernel
theorem dX6_best_51 : decode cX6_best 51 = .ok (.getfield 26, 3) := by decide +kernel
theorem dX6_best_54 : decode cX6_best 54 = .ok (.iload 4, 2) := by decide +kernel
theorem dX6_best_56 : decode cX6_best 56 = .ok (.sipush 400, 3) := by decide +kernel
theorem dX6_best_59 : decode cX6_best 59 = .ok (.invokevirtual 165, 3) := by decide +kernel
theorem dX6_best_62 : decode cX6_best 62 = .ok (.aload_n 0, 1) := by decide +kernel
theorem dX6_best_63 : decode cX6_best 63 = .ok (.getfield 40, 3) := by decide +kernel
theorem dX6_best_66 : decode cX6_best 66 = .ok (.getfield 181, 3) := by decide +kernel
theorem dX6_best_69 : decode cX6_best 69 = .ok (.iload_n 3, 1) := by decide +kernel
theorem dX6_best_70 : decode cX6_best 70 = .ok (.if_icmp .ge 14, 3) := by decide +kernel
theorem dX6_best_73 : decode cX6_best 73 = .ok (.aload_n 0, 1) := by decide +kernel
theorem dX6_best_74 : decode cX6_best 74 = .ok (.getfield 40, 3) := by decide +kernel
theorem dX6_best_77 : decode cX6_best 77 = .ok (.getfield 181, 3) := by decide +kernel
theorem dX6_best_80 : decode cX6_best 80 = .ok (.istore_n 3, 1) := by decide +kernel
theorem dX6_best_81 : decode cX6_best 81 = .ok (.iload 4, 2) := by decide +kernel
theorem dX6_best_83 : decode cX6_best 83 = .ok (.istore_n 2, 1) := by decide +kernel
theorem dX6_best_84 : decode cX6_best 84 = .ok (.iinc 4 1, 3) := by decide +kernel
theorem dX6_best_87 : decode cX6_best 87 = .ok (.goto (-51), 3) := by decide +kernel
theorem dX6_best_90 : decode cX6_best 90 = .ok (.iload_n 1, 1) := by decide +kernel
theorem dX6_best_91 : decode cX6_best 91 = .ok (.ifCond .ne 7, 3) := by decide +kernel
theorem dX6_best_94 : decode cX6_best 94 = .ok (.iload_n 2, 1) := by decide +kernel
theorem dX6_best_95 : decode cX6_best 95 = .ok (.goto 4, 3) := by decide +kernel
theorem dX6_best_98 : decode cX6_best 98 = .ok (.iload_n 3, 1) := by decide +kernel
theorem dX6_best_99 : decode cX6_best 99 = .ok (.ireturn, 1) := by decide +kernel
theorem dX6_straight_0 : decode cX6_straight 0 = .ok (.aload_n 0, 1) := by decide +kernel
theorem dX6_straight_1 : decode cX6_straight 1 = .ok (.getfield 33, 3) := by decide +kernel
theorem dX6_straight_4 : decode cX6_straight 4 = .ok (.invokevirtual 184, 3) := by decide +kernel
theorem dX6_straight_7 : decode cX6_straight 7 = .ok (.iconst 0, 1) := by decide +kernel
theorem dX6_straight_8 : decode cX6_straight 8 = .ok (.istore_n 1, 1) := by decide +kernel
theorem dX6_straight_9 : decode cX6_straight 9 = .ok (.iload_n 1, 1) := by decide +kernel
theorem dX6_straight_10 : decode cX6_straight 10 = .ok (.aload_n 0, 1) := by decide +kernel
theorem dX6_straight_11 : decode cX6_straight 11 = .ok (.getfield 10, 3) := by decide +kernel
theorem dX6_straight_14 : decode cX6_straight 14 = .ok (.getfield 73, 3) := by decide +kernel
theorem dX6_straight_17 : decode cX6_straight 17 = .ok (.if_icmp .ge 43, 3) := by decide +kernel
theorem dX6_straight_20 : decode cX6_straight 20 = .ok (.aload_n 0, 1) := by decide +kernel
theorem dX6_straight_21 : decode cX6_straight 21 = .ok (.getfield 26, 3) := by decide +kernel
theorem dX6_straight_24 : decode cX6_straight 24 = .ok (.aload_n 0, 1) := by decide +kernel
theorem dX6_straight_25 : decode cX6_straight 25 = .ok (.getfield 10, 3) := by decide +kernel
theorem dX6_straight_28 : decode cX6_straight 28 = .ok (.iload_n 1, 1) := by decide +kernel
theorem dX6_straight_29 : decode cX6_straight 29 = .ok (.aload_n 0, 1) := by decide +kernel
theorem dX6_straight_30 : decode cX6_straight 30 = .ok (.getfield 10, 3) := by decide +kernel
theorem dX6_straight_33 : decode cX6_straight 33 = .ok (.iload_n 1, 1) := by decide +kernel
theorem dX6_straight_34 : decode cX6_straight 34 = .ok (.iconst 0, 1) := by decide +kernel
theorem dX6_straight_35 : decode cX6_straight 35 = .ok (.invokevirtual 88, 3) := by decide +kernel
theorem dX6_straight_38 : decode cX6_straight 38 = .ok (.invokevirtual 187, 3) := by decide +kernel
theorem dX6_straight_41 : decode cX6_straight 41 = .ok (.aload_n 0, 1) := by decide +kernel
theorem dX6_straight_42 : decode cX6_straight 42 = .ok (.getfield 33, 3) := by decide +kernel
theorem dX6_straight_45 : decode cX6_straight 45 = .ok (.aload_n 0, 1) := by decide +kernel
theorem dX6_straight_46 : decode cX6_straight 46 = .ok (.getfield 26, 3) := by decide +kernel
theorem dX6_straight_49 : decode cX6_straight 49 = .ok (.iload_n 1, 1) := by decide +kernel
theorem dX6_straight_50 : decode cX6_straight 50 = .ok (.iconst 1, 1) := by decide +kernel
theorem dX6_straight_51 : decode cX6_straight 51 = .ok (.invokevirtual 191, 3) := by decide +kernel
theorem dX6_straight_54 : decode cX6_straight 54 = .ok (.iinc 1 1, 3) := by decide +kernel
theorem dX6_straight_57 : decode cX6_straight 57 = .ok (.goto (-48), 3) := by decide +kernel
theorem dX6_straight_60 : decode cX6_straight 60 = .ok (.aload_n 0, 1) := by decide +kernel
theorem dX6_straight_61 : decode cX6_straight 61 = .ok (.iconst 0, 1) := by decide +kernel
theorem dX6_straight_62 : decode cX6_straight 62 = .ok (.invokevirtual 146, 3) := by decide +kernel
theorem dX6_straight_65 : decode cX6_straight 65 = .ok (.ireturn, 1) := by decide +kernel
theorem dX6_type_0 : decode cX6_type 0 = .ok (.iload_n 1, 1) := by decide +kernel
theorem dX6_type_1 : decode cX6_type 1 = .ok (.ifCond .lt 10, 3) := by decide +kernel
theorem dX6_type_4 : decode cX6_type 4 = .ok (.iload_n 1, 1) := by decide +kernel
theorem dX6_type_5 : decode cX6_type 5 = .ok (.sipush 128, 3) := by decide +kernel
theorem dX6_type_8 : decode cX6_type 8 = .ok (.if_icmp .lt 10, 3) := by decide +kernel
theorem dX6_type_11 : decode cX6_type 11 = .ok (.aload_n 0, 1) := by decide +kernel
theorem dX6_type_12 : decode cX6_type 12 = .ok (.bipush (-2), 2) := by decide +kernel
theorem dX6_type_14 : decode cX6_type 14 = .ok (.invokevirtual 62, 3) := by decide +kernel
theorem dX6_type_17 : decode cX6_type 17 = .ok (.ireturn, 1) := by decide +kernel
theorem dX6_type_18 : decode cX6_type 18 = .ok (.aload_n 0, 1) := by decide +kernel
theorem dX6_type_19 : decode cX6_type 19 = .ok (.getfield 47, 3) := by decide +kernel
theorem dX6_type_22 : decode cX6_type 22 = .ok (.getfield 194, 3) := by decide +kernel
theorem dX6_type_25 : decode cX6_type 25 = .ok (.bipush 120, 2) := by decide +kernel
theorem dX6_type_27 : decode cX6_type 27 = .ok (.if_icmp .lt 10, 3) := by decide +kernel
theorem dX6_type_30 : decode cX6_type 30 = .ok (.aload_n 0, 1) := by decide +kernel
theorem dX6_type_31 : decode cX6_type 31 = .ok (.bipush (-4), 2) := by decide +kernel
theorem dX6_type_33 : decode cX6_type 33 = .ok (.invokevirtual 62, 3) := by decide +kernel
theorem dX6_type_36 : decode cX6_type 36 = .ok (.ireturn, 1) := by decide +kernel
theorem dX6_type_37 : decode cX6_type 37 = .ok (.aload_n 0, 1) := by decide +kernel
theorem dX6_type_38 : decode cX6_type 38 = .ok (.getfield 47, 3) := by decide +kernel
theorem dX6_type_41 : decode cX6_type 41 = .ok (.iload_n 1, 1) := by decide +kernel
theorem dX6_type_42 : decode cX6_type 42 = .ok (.invokevirtual 197, 3) := by decide +kernel
theorem dX6_type_45 : decode cX6_type 45 = .ok (.aload_n 0, 1) := by decide +kernel
theorem dX6_type_46 : decode cX6_type 46 = .ok (.getfield 47, 3) := by decide +kernel
theorem dX6_type_49 : decode cX6_type 49 = .ok (.getfield 194, 3) := by decide +kernel
theorem dX6_type_52 : decode cX6_type 52 = .ok (.ireturn, 1) := by decide +kernel
theorem dX6_clear_0 : decode cX6_clear 0 = .ok (.aload_n 0, 1) := by decide +kernel
theorem dX6_clear_1 : decode cX6_clear 1 = .ok (.getfield 47, 3) := by decide +kernel
theorem dX6_clear_4 : decode cX6_clear 4 = .ok (.getfield 194, 3) := by decide +kernel
theorem dX6_clear_7 : decode cX6_clear 7 = .ok (.istore_n 1, 1) := by decide +kernel
theorem dX6_clear_8 : decode cX6_clear 8 = .ok (.aload_n 0, 1) := by decide +kernel
theorem dX6_clear_9 : decode cX6_clear 9 = .ok (.getfield 47, 3) := by decide +kernel
theorem dX6_clear_12 : decode cX6_clear 12 = .ok (.iconst 0, 1) := by decide +kernel
theorem dX6_clear_13 : decode cX6_clear 13 = .ok (.putfield 194, 3) := by decide +kernel
theorem dX6_clear_16 : decode cX6_clear 16 = .ok (.iload_n 1, 1) := by decide +kernel
theorem dX6_clear_17 : decode cX6_clear 17 = .ok (.ireturn, 1) := by decide +kernel
theorem dX6_reads_0 : decode cX6_reads 0 = .ok (.aload_n 0, 1) := by decide +kernel
theorem dX6_reads_1 : decode cX6_reads 1 = .ok (.getfield 47, 3) := by decide +kernel
theorem dX6_reads_4 : decode cX6_reads 4 = .ok (.aload_n 0, 1) := by decide +kernel
theorem dX6_reads_5 : decode cX6_reads 5 = .ok (.getfield 10, 3) := by decide +kernel
theorem dX6_reads_8 : decode cX6_reads 8 = .ok (.getfield 73, 3) := by decide +kernel
theorem dX6_reads_11 : decode cX6_reads 11 = .ok (.aload_n 0, 1) := by decide +kernel
theorem dX6_reads_12 : decode cX6_reads 12 = .ok (.getfield 10, 3) := by decide +kernel
theorem dX6_reads_15 : decode cX6_reads 15 = .ok (.invokevirtual 103, 3) := by decide +kernel
theorem dX6_reads_18 : decode cX6_reads 18 = .ok (.invokevirtual 200, 3) := by decide +kernel
theorem dX6_reads_21 : decode cX6_reads 21 = .ok (.aload_n 0, 1) := by decide +kernel
theorem dX6_reads_22 : decode cX6_reads 22 = .ok (.getfield 47, 3) := by decide +kernel
theorem dX6_reads_25 : decode cX6_reads 25 = .ok (.getfield 204, 3) := by decide +kernel
theorem dX6_reads_28 : decode cX6_reads 28 = .ok (.iconst (-1), 1) := by decide +kernel
theorem dX6_reads_29 : decode cX6_reads 29 = .ok (.if_icmp .eq 14, 3) := by decide +kernel
theorem dX6_reads_32 : decode cX6_reads 32 = .ok (.bipush (-10), 2) := by decide +kernel
theorem dX6_reads_34 : decode cX6_reads 34 = .ok (.aload_n 0, 1) := by decide +kernel
theorem dX6_reads_35 : decode cX6_reads 35 = .ok (.getfield 47, 3) := by decide +kernel
theorem dX6_reads_38 : decode cX6_reads 38 = .ok (.getfield 204, 3) := by decide +kernel
theorem dX6_reads_41 : decode cX6_reads 41 = .ok (.isub, 1) := by decide +kernel
theorem dX6_reads_42 : decode cX6_reads 42 = .ok (.ireturn, 1) := by decide +kernel
theorem dX6_reads_43 : decode cX6_reads 43 = .ok (.aload_n 0, 1) := by decide +kernel
theorem dX6_reads_44 : decode cX6_reads 44 = .ok (.getfield 19, 3) := by decide +kernel
theorem dX6_reads_47 : decode cX6_reads 47 = .ok (.aload_n 0, 1) := by decide +kernel
theorem dX6_reads_48 : decode cX6_reads 48 = .ok (.getfield 10, 3) := by decide +kernel
theorem dX6_reads_51 : decode cX6_reads 51 = .ok (.invokevirtual 66, 3) := by decide +kernel
theorem dX6_reads_54 : decode cX6_reads 54 = .ok (.iconst 0, 1) := by decide +kernel
theorem dX6_reads_55 : decode cX6_reads 55 = .ok (.istore_n 1, 1) := by decide +kernel
theorem dX6_reads_56 : decode cX6_reads 56 = .ok (.iload_n 1, 1) := by decide +kernel
theorem dX6_reads_57 : decode cX6_reads 57 = .ok (.aload_n 0, 1) := by decide +kernel
theorem dX6_reads_58 : decode cX6_reads 58 = .ok (.getfield 47, 3) := by decide +kernel
theorem dX6_reads_61 : decode cX6_reads 61 = .ok (.getfield 207, 3) := by decide +kernel
theorem dX6_reads_64 : decode cX6_reads 64 = .ok (.if_icmp .ge 52, 3) := by decide +kernel
theorem dX6_reads_67 : decode cX6_reads 67 = .ok (.aload_n 0, 1) := by decide +kernel
theorem dX6_reads_68 : decode cX6_reads 68 = .ok (.getfield 10, 3) := by decide +kernel
theorem dX6_reads_71 : decode cX6_reads 71 = .ok (.aload_n 0, 1) := by decide +kernel
theorem dX6_reads_72 : decode cX6_reads 72 = .ok (.getfield 47, 3) := by decide +kernel
theorem dX6_reads_75 : decode cX6_reads 75 = .ok (.iload_n 1, 1) := by decide +kernel
theorem dX6_reads_76 : decode cX6_reads 76 = .ok (.iconst 0, 1) := by decide +kernel
theorem dX6_reads_77 : decode cX6_reads 77 = .ok (.invokevirtual 210, 3) := by decide +kernel
theorem dX6_reads_80 : decode cX6_reads 80 = .ok (.aload_n 0, 1) := by decide +kernel
theorem dX6_reads_81 : decode cX6_reads 81 = .ok (.getfield 47, 3) := by decide +kernel
theorem dX6_reads_84 : decode cX6_reads 84 = .ok (.iload_n 1, 1) := by decide +kernel
theorem dX6_reads_85 : decode cX6_reads 85 = .ok (.iconst 1, 1) := by decide +kernel
theorem dX6_reads_86 : decode cX6_reads 86 = .ok (.invokevirtual 210, 3) := by decide +kernel
theorem dX6_reads_89 : decode cX6_reads 89 = .ok (.aload_n 0, 1) := by decide +kernel
theorem dX6_reads_90 : decode cX6_reads 90 = .ok (.getfield 47, 3) := by decide +kernel
theorem dX6_reads_93 : decode cX6_reads 93 = .ok (.iload_n 1, 1) := by decide +kernel
theorem dX6_reads_94 : decode cX6_reads 94 = .ok (.iconst 2, 1) := by decide +kernel
theorem dX6_reads_95 : decode cX6_reads 95 = .ok (.invokevirtual 210, 3) := by decide +kernel
theorem dX6_reads_98 : decode cX6_reads 98 = .ok (.aload_n 0, 1) := by decide +kernel
theorem dX6_reads_99 : decode cX6_reads 99 = .ok (.getfield 47, 3) := by decide +kernel
theorem dX6_reads_102 : decode cX6_reads 102 = .ok (.iload_n 1, 1) := by decide +kernel
theorem dX6_reads_103 : decode cX6_reads 103 = .ok (.iconst 3, 1) := by decide +kernel
theorem dX6_reads_104 : decode cX6_reads 104 = .ok (.invokevirtual 210, 3) := by decide +kernel
theorem dX6_reads_107 : decode cX6_reads 107 = .ok (.invokevirtual 80, 3) := by decide +kernel
theorem dX6_reads_110 : decode cX6_reads 110 = .ok (.iinc 1 1, 3) := by decide +kernel
theorem dX6_reads_113 : decode cX6_reads 113 = .ok (.goto (-57), 3) := by decide +kernel
theorem dX6_reads_116 : decode cX6_reads 116 = .ok (.aload_n 0, 1) := by decide +kernel
theorem dX6_reads_117 : decode cX6_reads 117 = .ok (.getfield 47, 3) := by decide +kernel
theorem dX6_reads_120 : decode cX6_reads 120 = .ok (.getfield 207, 3) := by decide +kernel
theorem dX6_reads_123 : decode cX6_reads 123 = .ok (.ireturn, 1) := by decide +kernel
theorem dX6_back_0 : decode cX6_back 0 = .ok (.aload_n 0, 1) := by decide +kernel
theorem dX6_back_1 : decode cX6_back 1 = .ok (.getfield 19, 3) := by decide +kernel
theorem dX6_back_4 : decode cX6_back 4 = .ok (.getfield 211, 3) := by decide +kernel
theorem dX6_back_7 : decode cX6_back 7 = .ok (.ifCond .ne 10, 3) := by decide +kernel
theorem dX6_back_10 : decode cX6_back 10 = .ok (.aload_n 0, 1) := by decide +kernel
theorem dX6_back_11 : decode cX6_back 11 = .ok (.bipush (-3), 2) := by decide +kernel
theorem dX6_back_13 : decode cX6_back 13 = .ok (.invokevirtual 62, 3) := by decide +kernel
theorem dX6_back_16 : decode cX6_back 16 = .ok (.ireturn, 1) := by decide +kernel
theorem dX6_back_17 : decode cX6_back 17 = .ok (.aload_n 0, 1) := by decide +kernel
theorem dX6_back_18 : decode cX6_back 18 = .ok (.getfield 19, 3) := by decide +kernel
theorem dX6_back_21 : decode cX6_back 21 = .ok (.aload_n 0, 1) := by decide +kernel
theorem dX6_back_22 : decode cX6_back 22 = .ok (.getfield 10, 3) := by decide +kernel
theorem dX6_back_25 : decode cX6_back 25 = .ok (.invokevirtual 212, 3) := by decide +kernel
theorem dX6_back_28 : decode cX6_back 28 = .ok (.aload_n 0, 1) := by decide +kernel
theorem dX6_back_29 : decode cX6_back 29 = .ok (.getfield 19, 3) := by decide +kernel
theorem dX6_back_32 : decode cX6_back 32 = .ok (.getfield 211, 3) := by decide +kernel
theorem dX6_back_35 : decode cX6_back 35 = .ok (.ireturn, 1) := by decide +kernel
theorem dX6_told_0 : decode cX6_told 0 = .ok (.iload_n 1, 1) := by decide +kernel
theorem dX6_told_1 : decode cX6_told 1 = .ok (.ifCond .lt 9, 3) := by decide +kernel
theorem dX6_told_4 : decode cX6_told 4 = .ok (.iload_n 1, 1) := by decide +kernel
theorem dX6_told_5 : decode cX6_told 5 = .ok (.bipush 8, 2) := by decide +kernel
theorem dX6_told_7 : decode cX6_told 7 = .ok (.if_icmp .le 10, 3) := by decide +kernel
theorem dX6_told_10 : decode cX6_told 10 = .ok (.aload_n 0, 1) := by decide +kernel
theorem dX6_told_11 : decode cX6_told 11 = .ok (.bipush (-2), 2) := by decide +kernel
theorem dX6_told_13 : decode cX6_told 13 = .ok (.invokevirtual 62, 3) := by decide +kernel
theorem dX6_told_16 : decode cX6_told 16 = .ok (.ireturn, 1) := by decide +kernel
theorem dX6_told_17 : decode cX6_told 17 = .ok (.iload_n 1, 1) := by decide +kernel
theorem dX6_told_18 : decode cX6_told 18 = .ok (.tableswitch 86 3 8 #[38, 46, 54, 62, 70, 78], 38) := by decide +kernel
theorem dX6_told_56 : decode cX6_told 56 = .ok (.aload_n 0, 1) := by decide +kernel
theorem dX6_told_57 : decode cX6_told 57 = .ok (.getfield 47, 3) := by decide +kernel
theorem dX6_told_60 : decode cX6_told 60 = .ok (.getfield 194, 3) := by decide +kernel
theorem dX6_told_63 : decode cX6_told 63 = .ok (.ireturn, 1) := by decide +kernel
theorem dX6_told_64 : decode cX6_told 64 = .ok (.aload_n 0, 1) := by decide +kernel
theorem dX6_told_65 : decode cX6_told 65 = .ok (.getfield 10, 3) := by decide +kernel
theorem dX6_told_68 : decode cX6_told 68 = .ok (.getfield 70, 3) := by decide +kernel
theorem dX6_told_71 : decode cX6_told 71 = .ok (.ireturn, 1) := by decide +kernel
theorem dX6_told_72 : decode cX6_told 72 = .ok (.aload_n 0, 1) := by decide +kernel
theorem dX6_told_73 : decode cX6_told 73 = .ok (.getfield 10, 3) := by decide +kernel
theorem dX6_told_76 : decode cX6_told 76 = .ok (.getfield 73, 3) := by decide +kernel
theorem dX6_told_79 : decode cX6_told 79 = .ok (.ireturn, 1) := by decide +kernel
theorem dX6_told_80 : decode cX6_told 80 = .ok (.aload_n 0, 1) := by decide +kernel
theorem dX6_told_81 : decode cX6_told 81 = .ok (.getfield 10, 3) := by decide +kernel
theorem dX6_told_84 : decode cX6_told 84 = .ok (.getfield 96, 3) := by decide +kernel
theorem dX6_told_87 : decode cX6_told 87 = .ok (.ireturn, 1) := by decide +kernel
theorem dX6_told_88 : decode cX6_told 88 = .ok (.aload_n 0, 1) := by decide +kernel
theorem dX6_told_89 : decode cX6_told 89 = .ok (.getfield 10, 3) := by decide +kernel
theorem dX6_told_92 : decode cX6_told 92 = .ok (.getfield 99, 3) := by decide +kernel
theorem dX6_told_95 : decode cX6_told 95 = .ok (.ireturn, 1) := by decide +kernel
theorem dX6_told_96 : decode cX6_told 96 = .ok (.aload_n 0, 1) := by decide +kernel
theorem dX6_told_97 : decode cX6_told 97 = .ok (.getfield 19, 3) := by decide +kernel
theorem dX6_told_100 : decode cX6_told 100 = .ok (.getfield 211, 3) := by decide +kernel
theorem dX6_told_103 : decode cX6_told 103 = .ok (.ireturn, 1) := by decide +kernel
theorem dX6_told_104 : decode cX6_told 104 = .ok (.aload_n 0, 1) := by decide +kernel
theorem dX6_told_105 : decode cX6_told 105 = .ok (.getfield 51, 3) := by decide +kernel
theorem dX6_told_108 : decode cX6_told 108 = .ok (.iload_n 1, 1) := by decide +kernel
theorem dX6_told_109 : decode cX6_told 109 = .ok (.iaload, 1) := by decide +kernel
theorem dX6_told_110 : decode cX6_told 110 = .ok (.ireturn, 1) := by decide +kernel
theorem dX6_digest_0 : decode cX6_digest 0 = .ok (.ldc2_w 215, 3) := by decide +kernel
theorem dX6_digest_3 : decode cX6_digest 3 = .ok (.lstore_n 1, 1) := by decide +kernel
theorem dX6_digest_4 : decode cX6_digest 4 = .ok (.iconst 0, 1) := by decide +kernel
theorem dX6_digest_5 : decode cX6_digest 5 = .ok (.istore_n 3, 1) := by decide +kernel
theorem dX6_digest_6 : decode cX6_digest 6 = .ok (.iload_n 3, 1) := by decide +kernel
theorem dX6_digest_7 : decode cX6_digest 7 = .ok (.bipush 8, 2) := by decide +kernel
theorem dX6_digest_9 : decode cX6_digest 9 = .ok (.if_icmp .gt 22, 3) := by decide +kernel
theorem dX6_digest_12 : decode cX6_digest 12 = .ok (.ldc2_w 217, 3) := by decide +kernel
theorem dX6_digest_15 : decode cX6_digest 15 = .ok (.lload_n 1, 1) := by decide +kernel
theorem dX6_digest_16 : decode cX6_digest 16 = .ok (.lmul, 1) := by decide +kernel
theorem dX6_digest_17 : decode cX6_digest 17 = .ok (.aload_n 0, 1) := by decide +kernel
theorem dX6_digest_18 : decode cX6_digest 18 = .ok (.iload_n 3, 1) := by decide +kernel
theorem dX6_digest_19 : decode cX6_digest 19 = .ok (.invokevirtual 219, 3) := by decide +kernel
theorem dX6_digest_22 : decode cX6_digest 22 = .ok (.i2l, 1) := by decide +kernel
theorem dX6_digest_23 : decode cX6_digest 23 = .ok (.ladd, 1) := by decide +kernel
theorem dX6_digest_24 : decode cX6_digest 24 = .ok (.lstore_n 1, 1) := by decide +kernel
theorem dX6_digest_25 : decode cX6_digest 25 = .ok (.iinc 3 1, 3) := by decide +kernel
theorem dX6_digest_28 : decode cX6_digest 28 = .ok (.goto (-22), 3) := by decide +kernel
theorem dX6_digest_31 : decode cX6_digest 31 = .ok (.aload_n 0, 1) := by decide +kernel
theorem dX6_digest_32 : decode cX6_digest 32 = .ok (.invokevirtual 140, 3) := by decide +kernel
theorem dX6_digest_35 : decode cX6_digest 35 = .ok (.iconst 0, 1) := by decide +kernel
theorem dX6_digest_36 : decode cX6_digest 36 = .ok (.istore_n 3, 1) := by decide +kernel
theorem dX6_digest_37 : decode cX6_digest 37 = .ok (.iload_n 3, 1) := by decide +kernel
theorem dX6_digest_38 : decode cX6_digest 38 = .ok (.aload_n 0, 1) := by decide +kernel
theorem dX6_digest_39 : decode cX6_digest 39 = .ok (.getfield 10, 3) := by decide +kernel
theorem dX6_digest_42 : decode cX6_digest 42 = .ok (.getfield 73, 3) := by decide +kernel
theorem dX6_digest_45 : decode cX6_digest 45 = .ok (.if_icmp .ge 39, 3) := by decide +kernel
theorem dX6_digest_48 : decode cX6_digest 48 = .ok (.iconst 0, 1) := by decide +kernel
theorem dX6_digest_49 : decode cX6_digest 49 = .ok (.istore 4, 2) := by decide +kernel
theorem dX6_digest_51 : decode cX6_digest 51 = .ok (.iload 4, 2) := by decide +kernel
theorem dX6_digest_53 : decode cX6_digest 53 = .ok (.iconst 5, 1) := by decide +kernel
theorem dX6_digest_54 : decode cX6_digest 54 = .ok (.if_icmp .gt 24, 3) := by decide +kernel
theorem dX6_digest_57 : decode cX6_digest 57 = .ok (.ldc2_w 217, 3) := by decide +kernel
theorem dX6_digest_60 : decode cX6_digest 60 = .ok (.lload_n 1, 1) := by decide +kernel
theorem dX6_digest_61 : decode cX6_digest 61 = .ok (.lmul, 1) := by decide +kernel
theorem dX6_digest_62 : decode cX6_digest 62 = .ok (.aload_n 0, 1) := by decide +kernel
theorem dX6_digest_63 : decode cX6_digest 63 = .ok (.iload_n 3, 1) := by decide +kernel
theorem dX6_digest_64 : decode cX6_digest 64 = .ok (.iload 4, 2) := by decide +kernel
theorem dX6_digest_66 : decode cX6_digest 66 = .ok (.invokevirtual 127, 3) := by decide +kernel
theorem dX6_digest_69 : decode cX6_digest 69 = .ok (.i2l, 1) := by decide +kernel
theorem dX6_digest_70 : decode cX6_digest 70 = .ok (.ladd, 1) := by decide +kernel
theorem dX6_digest_71 : decode cX6_digest 71 = .ok (.lstore_n 1, 1) := by decide +kernel
theorem dX6_digest_72 : decode cX6_digest 72 = .ok (.iinc 4 1, 3) := by decide +kernel
theorem dX6_digest_75 : decode cX6_digest 75 = .ok (.goto (-24), 3) := by decide +kernel
theorem dX6_digest_78 : decode cX6_digest 78 = .ok (.iinc 3 1, 3) := by decide +kernel
theorem dX6_digest_81 : decode cX6_digest 81 = .ok (.goto (-44), 3) := by decide +kernel
theorem dX6_digest_84 : decode cX6_digest 84 = .ok (.ldc2_w 217, 3) := by decide +kernel
theorem dX6_digest_87 : decode cX6_digest 87 = .ok (.lload_n 1, 1) := by decide +kernel
theorem dX6_digest_88 : decode cX6_digest 88 = .ok (.lmul, 1) := by decide +kernel
theorem dX6_digest_89 : decode cX6_digest 89 = .ok (.aload_n 0, 1) := by decide +kernel
theorem dX6_digest_90 : decode cX6_digest 90 = .ok (.getfield 55, 3) := by decide +kernel
theorem dX6_digest_93 : decode cX6_digest 93 = .ok (.i2l, 1) := by decide +kernel
theorem dX6_digest_94 : decode cX6_digest 94 = .ok (.ladd, 1) := by decide +kernel
theorem dX6_digest_95 : decode cX6_digest 95 = .ok (.lstore_n 1, 1) := by decide +kernel
theorem dX6_digest_96 : decode cX6_digest 96 = .ok (.ldc2_w 217, 3) := by decide +kernel
theorem dX6_digest_99 : decode cX6_digest 99 = .ok (.lload_n 1, 1) := by decide +kernel
theorem dX6_digest_100 : decode cX6_digest 100 = .ok (.lmul, 1) := by decide +kernel
theorem dX6_digest_101 : decode cX6_digest 101 = .ok (.aload_n 0, 1) := by decide +kernel
theorem dX6_digest_102 : decode cX6_digest 102 = .ok (.getfield 59, 3) := by decide +kernel
theorem dX6_digest_105 : decode cX6_digest 105 = .ok (.i2l, 1) := by decide +kernel
theorem dX6_digest_106 : decode cX6_digest 106 = .ok (.ladd, 1) := by decide +kernel
theorem dX6_digest_107 : decode cX6_digest 107 = .ok (.lstore_n 1, 1) := by decide +kernel
theorem dX6_digest_108 : decode cX6_digest 108 = .ok (.iconst 0, 1) := by decide +kernel
theorem dX6_digest_109 : decode cX6_digest 109 = .ok (.istore_n 3, 1) := by decide +kernel
theorem dX6_digest_110 : decode cX6_digest 110 = .ok (.iload_n 3, 1) := by decide +kernel
theorem dX6_digest_111 : decode cX6_digest 111 = .ok (.iconst 2, 1) := by decide +kernel
theorem dX6_digest_112 : decode cX6_digest 112 = .ok (.if_icmp .gt 22, 3) := by decide +kernel
theorem dX6_digest_115 : decode cX6_digest 115 = .ok (.ldc2_w 217, 3) := by decide +kernel
theorem dX6_digest_118 : decode cX6_digest 118 = .ok (.lload_n 1, 1) := by decide +kernel
theorem dX6_digest_119 : decode cX6_digest 119 = .ok (.lmul, 1) := by decide +kernel
theorem dX6_digest_120 : decode cX6_digest 120 = .ok (.aload_n 0, 1) := by decide +kernel
theorem dX6_digest_121 : decode cX6_digest 121 = .ok (.iload_n 3, 1) := by decide +kernel
theorem dX6_digest_122 : decode cX6_digest 122 = .ok (.invokevirtual 146, 3) := by decide +kernel
theorem dX6_digest_125 : decode cX6_digest 125 = .ok (.i2l, 1) := by decide +kernel
theorem dX6_digest_126 : decode cX6_digest 126 = .ok (.ladd, 1) := by decide +kernel
theorem dX6_digest_127 : decode cX6_digest 127 = .ok (.lstore_n 1, 1) := by decide +kernel
theorem dX6_digest_128 : decode cX6_digest 128 = .ok (.iinc 3 1, 3) := by decide +kernel
theorem dX6_digest_131 : decode cX6_digest 131 = .ok (.goto (-21), 3) := by decide +kernel
theorem dX6_digest_134 : decode cX6_digest 134 = .ok (.aload_n 0, 1) := by decide +kernel
theorem dX6_digest_135 : decode cX6_digest 135 = .ok (.getfield 40, 3) := by decide +kernel
theorem dX6_digest_138 : decode cX6_digest 138 = .ok (.aload_n 0, 1) := by decide +kernel
theorem dX6_digest_139 : decode cX6_digest 139 = .ok (.getfield 10, 3) := by decide +kernel
theorem dX6_digest_142 : decode cX6_digest 142 = .ok (.aload_n 0, 1) := by decide +kernel
theorem dX6_digest_143 : decode cX6_digest 143 = .ok (.getfield 26, 3) := by decide +kernel
theorem dX6_digest_146 : decode cX6_digest 146 = .ok (.aload_n 0, 1) := by decide +kernel
theorem dX6_digest_147 : decode cX6_digest 147 = .ok (.getfield 10, 3) := by decide +kernel
theorem dX6_digest_150 : decode cX6_digest 150 = .ok (.getfield 99, 3) := by decide +kernel
theorem dX6_digest_153 : decode cX6_digest 153 = .ok (.sipush 400, 3) := by decide +kernel
theorem dX6_digest_156 : decode cX6_digest 156 = .ok (.invokevirtual 165, 3) := by decide +kernel
theorem dX6_digest_159 : decode cX6_digest 159 = .ok (.iconst 0, 1) := by decide +kernel
theorem dX6_digest_160 : decode cX6_digest 160 = .ok (.istore_n 3, 1) := by decide +kernel
theorem dX6_digest_161 : decode cX6_digest 161 = .ok (.iload_n 3, 1) := by decide +kernel
theorem dX6_digest_162 : decode cX6_digest 162 = .ok (.iconst 2, 1) := by decide +kernel
theorem dX6_digest_163 : decode cX6_digest 163 = .ok (.if_icmp .gt 22, 3) := by decide +kernel
theorem dX6_digest_166 : decode cX6_digest 166 = .ok (.ldc2_w 217, 3) := by decide +kernel
theorem dX6_digest_169 : decode cX6_digest 169 = .ok (.lload_n 1, 1) := by decide +kernel
theorem dX6_digest_170 : decode cX6_digest 170 = .ok (.lmul, 1) := by decide +kernel
theorem dX6_digest_171 : decode cX6_digest 171 = .ok (.aload_n 0, 1) := by decide +kernel
theorem dX6_digest_172 : decode cX6_digest 172 = .ok (.iload_n 3, 1) := by decide +kernel
theorem dX6_digest_173 : decode cX6_digest 173 = .ok (.invokevirtual 169, 3) := by decide +kernel
theorem dX6_digest_176 : decode cX6_digest 176 = .ok (.i2l, 1) := by decide +kernel
theorem dX6_digest_177 : decode cX6_digest 177 = .ok (.ladd, 1) := by decide +kernel
theorem dX6_digest_178 : decode cX6_digest 178 = .ok (.lstore_n 1, 1) := by decide +kernel
theorem dX6_digest_179 : decode cX6_digest 179 = .ok (.iinc 3 1, 3) := by decide +kernel
theorem dX6_digest_182 : decode cX6_digest 182 = .ok (.goto (-21), 3) := by decide +kernel
theorem dX6_digest_185 : decode cX6_digest 185 = .ok (.lload_n 1, 1) := by decide +kernel
theorem dX6_digest_186 : decode cX6_digest 186 = .ok (.lreturn, 1) := by decide +kernel
theorem dX6_refuse_0 : decode cX6_refuse 0 = .ok (.bipush (-2), 2) := by decide +kernel
theorem dX6_refuse_2 : decode cX6_refuse 2 = .ok (.iload_n 1, 1) := by decide +kernel
theorem dX6_refuse_3 : decode cX6_refuse 3 = .ok (.isub, 1) := by decide +kernel
theorem dX6_refuse_4 : decode cX6_refuse 4 = .ok (.istore_n 2, 1) := by decide +kernel
theorem dX6_refuse_5 : decode cX6_refuse 5 = .ok (.iload_n 2, 1) := by decide +kernel
theorem dX6_refuse_6 : decode cX6_refuse 6 = .ok (.ifCond .lt 22, 3) := by decide +kernel
theorem dX6_refuse_9 : decode cX6_refuse 9 = .ok (.iload_n 2, 1) := by decide +kernel
theorem dX6_refuse_10 : decode cX6_refuse 10 = .ok (.aload_n 0, 1) := by decide +kernel
theorem dX6_refuse_11 : decode cX6_refuse 11 = .ok (.getfield 51, 3) := by decide +kernel
theorem dX6_refuse_14 : decode cX6_refuse 14 = .ok (.arraylength, 1) := by decide +kernel
theorem dX6_refuse_15 : decode cX6_refuse 15 = .ok (.if_icmp .ge 13, 3) := by decide +kernel
theorem dX6_refuse_18 : decode cX6_refuse 18 = .ok (.aload_n 0, 1) := by decide +kernel
theorem dX6_refuse_19 : decode cX6_refuse 19 = .ok (.getfield 51, 3) := by decide +kernel
theorem dX6_refuse_22 : decode cX6_refuse 22 = .ok (.iload_n 2, 1) := by decide +kernel
theorem dX6_refuse_23 : decode cX6_refuse 23 = .ok (.dup2, 1) := by decide +kernel
theorem dX6_refuse_24 : decode cX6_refuse 24 = .ok (.iaload, 1) := by decide +kernel
theorem dX6_refuse_25 : decode cX6_refuse 25 = .ok (.iconst 1, 1) := by decide +kernel
theorem dX6_refuse_26 : decode cX6_refuse 26 = .ok (.iadd, 1) := by decide +kernel
theorem dX6_refuse_27 : decode cX6_refuse 27 = .ok (.iastore, 1) := by decide +kernel
theorem dX6_refuse_28 : decode cX6_refuse 28 = .ok (.iload_n 1, 1) := by decide +kernel
theorem dX6_refuse_29 : decode cX6_refuse 29 = .ok (.ireturn, 1) := by decide +kernel
theorem dX6_nameOf_0 : decode cX6_nameOf 0 = .ok (.iload_n 0, 1) := by decide +kernel
theorem dX6_nameOf_1 : decode cX6_nameOf 1 = .ok (.iconst 4, 1) := by decide +kernel
theorem dX6_nameOf_2 : decode cX6_nameOf 2 = .ok (.idiv, 1) := by decide +kernel
theorem dX6_nameOf_3 : decode cX6_nameOf 3 = .ok (.bipush 10, 2) := by decide +kernel
theorem dX6_nameOf_5 : decode cX6_nameOf 5 = .ok (.imul, 1) := by decide +kernel
theorem dX6_nameOf_6 : decode cX6_nameOf 6 = .ok (.iload_n 0, 1) := by decide +kernel
theorem dX6_nameOf_7 : decode cX6_nameOf 7 = .ok (.iconst 4, 1) := by decide +kernel
theorem dX6_nameOf_8 : decode cX6_nameOf 8 = .ok (.irem, 1) := by decide +kernel
theorem dX6_nameOf_9 : decode cX6_nameOf 9 = .ok (.iadd, 1) := by decide +kernel
theorem dX6_nameOf_10 : decode cX6_nameOf 10 = .ok (.ireturn, 1) := by decide +kernel
theorem dX6_factOf_0 : decode cX6_factOf 0 = .ok (.iload_n 2, 1) := by decide +kernel
theorem dX6_factOf_1 : decode cX6_factOf 1 = .ok (.lookupswitch 53 #[(4, 27), (5, 37)], 27) := by decide +kernel
theorem dX6_factOf_28 : decode cX6_factOf 28 = .ok (.aload_n 0, 1) := by decide +kernel
theorem dX6_factOf_29 : decode cX6_factOf 29 = .ok (.getfield 26, 3) := by decide +kernel
theorem dX6_factOf_32 : decode cX6_factOf 32 = .ok (.getfield 130, 3) := by decide +kernel
theorem dX6_factOf_35 : decode cX6_factOf 35 = .ok (.iload_n 1, 1) := by decide +kernel
theorem dX6_factOf_36 : decode cX6_factOf 36 = .ok (.iaload, 1) := by decide +kernel
theorem dX6_factOf_37 : decode cX6_factOf 37 = .ok (.ireturn, 1) := by decide +kernel
theorem dX6_factOf_38 : decode cX6_factOf 38 = .ok (.aload_n 0, 1) := by decide +kernel
theorem dX6_factOf_39 : decode cX6_factOf 39 = .ok (.getfield 26, 3) := by decide +kernel
theorem dX6_factOf_42 : decode cX6_factOf 42 = .ok (.iload_n 1, 1) := by decide +kernel
theorem dX6_factOf_43 : decode cX6_factOf 43 = .ok (.aload_n 0, 1) := by decide +kernel
theorem dX6_factOf_44 : decode cX6_factOf 44 = .ok (.getfield 10, 3) := by decide +kernel
theorem dX6_factOf_47 : decode cX6_factOf 47 = .ok (.getfield 73, 3) := by decide +kernel
theorem dX6_factOf_50 : decode cX6_factOf 50 = .ok (.invokevirtual 222, 3) := by decide +kernel
theorem dX6_factOf_53 : decode cX6_factOf 53 = .ok (.ireturn, 1) := by decide +kernel
theorem dX6_factOf_54 : decode cX6_factOf 54 = .ok (.aload_n 0, 1) := by decide +kernel
theorem dX6_factOf_55 : decode cX6_factOf 55 = .ok (.getfield 10, 3) := by decide +kernel
theorem dX6_factOf_58 : decode cX6_factOf 58 = .ok (.iload_n 1, 1) := by decide +kernel
theorem dX6_factOf_59 : decode cX6_factOf 59 = .ok (.iload_n 2, 1) := by decide +kernel
theorem dX6_factOf_60 : decode cX6_factOf 60 = .ok (.invokevirtual 88, 3) := by decide +kernel
theorem dX6_factOf_63 : decode cX6_factOf 63 = .ok (.ireturn, 1) := by decide +kernel
theorem dX6_tallyWays_0 : decode cX6_tallyWays 0 = .ok (.aload_n 0, 1) := by decide +kernel
theorem dX6_tallyWays_1 : decode cX6_tallyWays 1 = .ok (.getfield 26, 3) := by decide +kernel
theorem dX6_tallyWays_4 : decode cX6_tallyWays 4 = .ok (.aload_n 0, 1) := by decide +kernel
theorem dX6_tallyWays_5 : decode cX6_tallyWays 5 = .ok (.getfield 10, 3) := by decide +kernel
theorem dX6_tallyWays_8 : decode cX6_tallyWays 8 = .ok (.invokevirtual 124, 3) := by decide +kernel
theorem dX6_tallyWays_11 : decode cX6_tallyWays 11 = .ok (.aload_n 0, 1) := by decide +kernel
theorem dX6_tallyWays_12 : decode cX6_tallyWays 12 = .ok (.getfield 33, 3) := by decide +kernel
theorem dX6_tallyWays_15 : decode cX6_tallyWays 15 = .ok (.invokevirtual 184, 3) := by decide +kernel
theorem dX6_tallyWays_18 : decode cX6_tallyWays 18 = .ok (.iconst 0, 1) := by decide +kernel
theorem dX6_tallyWays_19 : decode cX6_tallyWays 19 = .ok (.istore_n 1, 1) := by decide +kernel
theorem dX6_tallyWays_20 : decode cX6_tallyWays 20 = .ok (.iload_n 1, 1) := by decide +kernel
theorem dX6_tallyWays_21 : decode cX6_tallyWays 21 = .ok (.aload_n 0, 1) := by decide +kernel
theorem dX6_tallyWays_22 : decode cX6_tallyWays 22 = .ok (.getfield 10, 3) := by decide +kernel
theorem dX6_tallyWays_25 : decode cX6_tallyWays 25 = .ok (.getfield 73, 3) := by decide +kernel
theorem dX6_tallyWays_28 : decode cX6_tallyWays 28 = .ok (.if_icmp .ge 22, 3) := by decide +kernel
theorem dX6_tallyWays_31 : decode cX6_tallyWays 31 = .ok (.aload_n 0, 1) := by decide +kernel
theorem dX6_tallyWays_32 : decode cX6_tallyWays 32 = .ok (.getfield 33, 3) := by decide +kernel
theorem dX6_tallyWays_35 : decode cX6_tallyWays 35 = .ok (.aload_n 0, 1) := by decide +kernel
theorem dX6_tallyWays_36 : decode cX6_tallyWays 36 = .ok (.getfield 26, 3) := by decide +kernel
theorem dX6_tallyWays_39 : decode cX6_tallyWays 39 = .ok (.iload_n 1, 1) := by decide +kernel
theorem dX6_tallyWays_40 : decode cX6_tallyWays 40 = .ok (.iconst 1, 1) := by decide +kernel
theorem dX6_tallyWays_41 : decode cX6_tallyWays 41 = .ok (.invokevirtual 191, 3) := by decide +kernel
theorem dX6_tallyWays_44 : decode cX6_tallyWays 44 = .ok (.iinc 1 1, 3) := by decide +kernel
theorem dX6_tallyWays_47 : decode cX6_tallyWays 47 = .ok (.goto (-27), 3) := by decide +kernel
theorem dX6_tallyWays_50 : decode cX6_tallyWays 50 = .ok (.return_, 1) := by decide +kernel
theorem dX6_tallyMean_0 : decode cX6_tallyMean 0 = .ok (.aload_n 0, 1) := by decide +kernel
theorem dX6_tallyMean_1 : decode cX6_tallyMean 1 = .ok (.getfield 33, 3) := by decide +kernel
theorem dX6_tallyMean_4 : decode cX6_tallyMean 4 = .ok (.invokevirtual 184, 3) := by decide +kernel
theorem dX6_tallyMean_7 : decode cX6_tallyMean 7 = .ok (.iconst 0, 1) := by decide +kernel
theorem dX6_tallyMean_8 : decode cX6_tallyMean 8 = .ok (.istore_n 2, 1) := by decide +kernel
theorem dX6_tallyMean_9 : decode cX6_tallyMean 9 = .ok (.iload_n 2, 1) := by decide +kernel
theorem dX6_tallyMean_10 : decode cX6_tallyMean 10 = .ok (.aload_n 0, 1) := by decide +kernel
theorem dX6_tallyMean_11 : decode cX6_tallyMean 11 = .ok (.getfield 10, 3) := by decide +kernel
theorem dX6_tallyMean_14 : decode cX6_tallyMean 14 = .ok (.getfield 73, 3) := by decide +kernel
theorem dX6_tallyMean_17 : decode cX6_tallyMean 17 = .ok (.if_icmp .ge 63, 3) := by decide +kernel
theorem dX6_tallyMean_20 : decode cX6_tallyMean 20 = .ok (.iload_n 2, 1) := by decide +kernel
theorem dX6_tallyMean_21 : decode cX6_tallyMean 21 = .ok (.iload_n 1, 1) := by decide +kernel
theorem dX6_tallyMean_22 : decode cX6_tallyMean 22 = .ok (.if_icmp .ge 46, 3) := by decide +kernel
theorem dX6_tallyMean_25 : decode cX6_tallyMean 25 = .ok (.aload_n 0, 1) := by decide +kernel
theorem dX6_tallyMean_26 : decode cX6_tallyMean 26 = .ok (.getfield 26, 3) := by decide +kernel
theorem dX6_tallyMean_29 : decode cX6_tallyMean 29 = .ok (.aload_n 0, 1) := by decide +kernel
theorem dX6_tallyMean_30 : decode cX6_tallyMean 30 = .ok (.getfield 10, 3) := by decide +kernel
theorem dX6_tallyMean_33 : decode cX6_tallyMean 33 = .ok (.iload_n 2, 1) := by decide +kernel
theorem dX6_tallyMean_34 : decode cX6_tallyMean 34 = .ok (.aload_n 0, 1) := by decide +kernel
theorem dX6_tallyMean_35 : decode cX6_tallyMean 35 = .ok (.getfield 10, 3) := by decide +kernel
theorem dX6_tallyMean_38 : decode cX6_tallyMean 38 = .ok (.iload_n 2, 1) := by decide +kernel
theorem dX6_tallyMean_39 : decode cX6_tallyMean 39 = .ok (.iconst 2, 1) := by decide +kernel
theorem dX6_tallyMean_40 : decode cX6_tallyMean 40 = .ok (.invokevirtual 88, 3) := by decide +kernel
theorem dX6_tallyMean_43 : decode cX6_tallyMean 43 = .ok (.invokevirtual 187, 3) := by decide +kernel
theorem dX6_tallyMean_46 : decode cX6_tallyMean 46 = .ok (.aload_n 0, 1) := by decide +kernel
theorem dX6_tallyMean_47 : decode cX6_tallyMean 47 = .ok (.getfield 33, 3) := by decide +kernel
theorem dX6_tallyMean_50 : decode cX6_tallyMean 50 = .ok (.aload_n 0, 1) := by decide +kernel
theorem dX6_tallyMean_51 : decode cX6_tallyMean 51 = .ok (.getfield 26, 3) := by decide +kernel
theorem dX6_tallyMean_54 : decode cX6_tallyMean 54 = .ok (.iload_n 2, 1) := by decide +kernel
theorem dX6_tallyMean_55 : decode cX6_tallyMean 55 = .ok (.aload_n 0, 1) := by decide +kernel
theorem dX6_tallyMean_56 : decode cX6_tallyMean 56 = .ok (.getfield 10, 3) := by decide +kernel
theorem dX6_tallyMean_59 : decode cX6_tallyMean 59 = .ok (.invokevirtual 103, 3) := by decide +kernel
theorem dX6_tallyMean_62 : decode cX6_tallyMean 62 = .ok (.invokevirtual 191, 3) := by decide +kernel
theorem dX6_tallyMean_65 : decode cX6_tallyMean 65 = .ok (.goto 9, 3) := by decide +kernel
theorem dX6_tallyMean_68 : decode cX6_tallyMean 68 = .ok (.aload_n 0, 1) := by decide +kernel
theorem dX6_tallyMean_69 : decode cX6_tallyMean 69 = .ok (.iload_n 2, 1) := by decide +kernel
theorem dX6_tallyMean_70 : decode cX6_tallyMean 70 = .ok (.iconst 1, 1) := by decide +kernel
theorem dX6_tallyMean_71 : decode cX6_tallyMean 71 = .ok (.invokevirtual 225, 3) := by decide +kernel
theorem dX6_tallyMean_74 : decode cX6_tallyMean 74 = .ok (.iinc 2 1, 3) := by decide +kernel
theorem dX6_tallyMean_77 : decode cX6_tallyMean 77 = .ok (.goto (-68), 3) := by decide +kernel
theorem dX6_tallyMean_80 : decode cX6_tallyMean 80 = .ok (.return_, 1) := by decide +kernel
theorem dX6_addDrawn_0 : decode cX6_addDrawn 0 = .ok (.aload_n 0, 1) := by decide +kernel
theorem dX6_addDrawn_1 : decode cX6_addDrawn 1 = .ok (.getfield 10, 3) := by decide +kernel
theorem dX6_addDrawn_4 : decode cX6_addDrawn 4 = .ok (.invokevirtual 103, 3) := by decide +kernel
theorem dX6_addDrawn_7 : decode cX6_addDrawn 7 = .ok (.istore_n 3, 1) := by decide +kernel
theorem dX6_addDrawn_8 : decode cX6_addDrawn 8 = .ok (.iconst 0, 1) := by decide +kernel
theorem dX6_addDrawn_9 : decode cX6_addDrawn 9 = .ok (.istore 4, 2) := by decide +kernel
theorem dX6_addDrawn_11 : decode cX6_addDrawn 11 = .ok (.iload 4, 2) := by decide +kernel
theorem dX6_addDrawn_13 : decode cX6_addDrawn 13 = .ok (.iload_n 3, 1) := by decide +kernel
theorem dX6_addDrawn_14 : decode cX6_addDrawn 14 = .ok (.if_icmp .ge 36, 3) := by decide +kernel
theorem dX6_addDrawn_17 : decode cX6_addDrawn 17 = .ok (.aload_n 0, 1) := by decide +kernel
theorem dX6_addDrawn_18 : decode cX6_addDrawn 18 = .ok (.getfield 26, 3) := by decide +kernel
theorem dX6_addDrawn_21 : decode cX6_addDrawn 21 = .ok (.aload_n 0, 1) := by decide +kernel
theorem dX6_addDrawn_22 : decode cX6_addDrawn 22 = .ok (.getfield 10, 3) := by decide +kernel
theorem dX6_addDrawn_25 : decode cX6_addDrawn 25 = .ok (.iload_n 1, 1) := by decide +kernel
theorem dX6_addDrawn_26 : decode cX6_addDrawn 26 = .ok (.iload 4, 2) := by decide +kernel
theorem dX6_addDrawn_28 : decode cX6_addDrawn 28 = .ok (.invokevirtual 187, 3) := by decide +kernel
theorem dX6_addDrawn_31 : decode cX6_addDrawn 31 = .ok (.aload_n 0, 1) := by decide +kernel
theorem dX6_addDrawn_32 : decode cX6_addDrawn 32 = .ok (.getfield 33, 3) := by decide +kernel
theorem dX6_addDrawn_35 : decode cX6_addDrawn 35 = .ok (.aload_n 0, 1) := by decide +kernel
theorem dX6_addDrawn_36 : decode cX6_addDrawn 36 = .ok (.getfield 26, 3) := by decide +kernel
theorem dX6_addDrawn_39 : decode cX6_addDrawn 39 = .ok (.iload_n 1, 1) := by decide +kernel
theorem dX6_addDrawn_40 : decode cX6_addDrawn 40 = .ok (.iload_n 2, 1) := by decide +kernel
theorem dX6_addDrawn_41 : decode cX6_addDrawn 41 = .ok (.invokevirtual 191, 3) := by decide +kernel
theorem dX6_addDrawn_44 : decode cX6_addDrawn 44 = .ok (.iinc 4 1, 3) := by decide +kernel
theorem dX6_addDrawn_47 : decode cX6_addDrawn 47 = .ok (.goto (-36), 3) := by decide +kernel
theorem dX6_addDrawn_50 : decode cX6_addDrawn 50 = .ok (.return_, 1) := by decide +kernel
theorem dX6_chooseBetween_0 : decode cX6_chooseBetween 0 = .ok (.aload_n 0, 1) := by decide +kernel
theorem dX6_chooseBetween_1 : decode cX6_chooseBetween 1 = .ok (.iload_n 1, 1) := by decide +kernel
theorem dX6_chooseBetween_2 : decode cX6_chooseBetween 2 = .ok (.iconst (-1), 1) := by decide +kernel
theorem dX6_chooseBetween_3 : decode cX6_chooseBetween 3 = .ok (.invokevirtual 225, 3) := by decide +kernel
theorem dX6_chooseBetween_6 : decode cX6_chooseBetween 6 = .ok (.aload_n 0, 1) := by decide +kernel
theorem dX6_chooseBetween_7 : decode cX6_chooseBetween 7 = .ok (.getfield 10, 3) := by decide +kernel
theorem dX6_chooseBetween_10 : decode cX6_chooseBetween 10 = .ok (.invokevirtual 103, 3) := by decide +kernel
theorem dX6_chooseBetween_13 : decode cX6_chooseBetween 13 = .ok (.istore_n 2, 1) := by decide +kernel
theorem dX6_chooseBetween_14 : decode cX6_chooseBetween 14 = .ok (.iconst 0, 1) := by decide +kernel
theorem dX6_chooseBetween_15 : decode cX6_chooseBetween 15 = .ok (.istore_n 3, 1) := by decide +kernel
theorem dX6_chooseBetween_16 : decode cX6_chooseBetween 16 = .ok (.iconst 0, 1) := by decide +kernel
theorem dX6_chooseBetween_17 : decode cX6_chooseBetween 17 = .ok (.istore 4, 2) := by decide +kernel
theorem dX6_chooseBetween_19 : decode cX6_chooseBetween 19 = .ok (.iconst 0, 1) := by decide +kernel
theorem dX6_chooseBetween_20 : decode cX6_chooseBetween 20 = .ok (.istore 5, 2) := by decide +kernel
theorem dX6_chooseBetween_22 : decode cX6_chooseBetween 22 = .ok (.iconst 0, 1) := by decide +kernel
theorem dX6_chooseBetween_23 : decode cX6_chooseBetween 23 = .ok (.istore 6, 2) := by decide +kernel
theorem dX6_chooseBetween_25 : decode cX6_chooseBetween 25 = .ok (.iload 6, 2) := by decide +kernel
theorem dX6_chooseBetween_27 : decode cX6_chooseBetween 27 = .ok (.iload_n 2, 1) := by decide +kernel
theorem dX6_chooseBetween_28 : decode cX6_chooseBetween 28 = .ok (.if_icmp .ge 113, 3) := by decide +kernel
theorem dX6_chooseBetween_31 : decode cX6_chooseBetween 31 = .ok (.aload_n 0, 1) := by decide +kernel
theorem dX6_chooseBetween_32 : decode cX6_chooseBetween 32 = .ok (.getfield 26, 3) := by decide +kernel
theorem dX6_chooseBetween_35 : decode cX6_chooseBetween 35 = .ok (.aload_n 0, 1) := by decide +kernel
theorem dX6_chooseBetween_36 : decode cX6_chooseBetween 36 = .ok (.getfield 10, 3) := by decide +kernel
theorem dX6_chooseBetween_39 : decode cX6_chooseBetween 39 = .ok (.iload_n 1, 1) := by decide +kernel
theorem dX6_chooseBetween_40 : decode cX6_chooseBetween 40 = .ok (.iload 6, 2) := by decide +kernel
theorem dX6_chooseBetween_42 : decode cX6_chooseBetween 42 = .ok (.invokevirtual 187, 3) := by decide +kernel
theorem dX6_chooseBetween_45 : decode cX6_chooseBetween 45 = .ok (.aload_n 0, 1) := by decide +kernel
theorem dX6_chooseBetween_46 : decode cX6_chooseBetween 46 = .ok (.getfield 33, 3) := by decide +kernel
theorem dX6_chooseBetween_49 : decode cX6_chooseBetween 49 = .ok (.aload_n 0, 1) := by decide +kernel
theorem dX6_chooseBetween_50 : decode cX6_chooseBetween 50 = .ok (.getfield 26, 3) := by decide +kernel
theorem dX6_chooseBetween_53 : decode cX6_chooseBetween 53 = .ok (.iload_n 1, 1) := by decide +kernel
theorem dX6_chooseBetween_54 : decode cX6_chooseBetween 54 = .ok (.iload_n 2, 1) := by decide +kernel
theorem dX6_chooseBetween_55 : decode cX6_chooseBetween 55 = .ok (.invokevirtual 191, 3) := by decide +kernel
theorem dX6_chooseBetween_58 : decode cX6_chooseBetween 58 = .ok (.aload_n 0, 1) := by decide +kernel
theorem dX6_chooseBetween_59 : decode cX6_chooseBetween 59 = .ok (.getfield 33, 3) := by decide +kernel
theorem dX6_chooseBetween_62 : decode cX6_chooseBetween 62 = .ok (.getfield 143, 3) := by decide +kernel
theorem dX6_chooseBetween_65 : decode cX6_chooseBetween 65 = .ok (.aload_n 0, 1) := by decide +kernel
theorem dX6_chooseBetween_66 : decode cX6_chooseBetween 66 = .ok (.getfield 33, 3) := by decide +kernel
theorem dX6_chooseBetween_69 : decode cX6_chooseBetween 69 = .ok (.invokevirtual 156, 3) := by decide +kernel
theorem dX6_chooseBetween_72 : decode cX6_chooseBetween 72 = .ok (.iaload, 1) := by decide +kernel
theorem dX6_chooseBetween_73 : decode cX6_chooseBetween 73 = .ok (.istore 7, 2) := by decide +kernel
theorem dX6_chooseBetween_75 : decode cX6_chooseBetween 75 = .ok (.aload_n 0, 1) := by decide +kernel
theorem dX6_chooseBetween_76 : decode cX6_chooseBetween 76 = .ok (.getfield 33, 3) := by decide +kernel
theorem dX6_chooseBetween_79 : decode cX6_chooseBetween 79 = .ok (.invokevirtual 228, 3) := by decide +kernel
theorem dX6_chooseBetween_82 : decode cX6_chooseBetween 82 = .ok (.istore 8, 2) := by decide +kernel
theorem dX6_chooseBetween_84 : decode cX6_chooseBetween 84 = .ok (.iload 6, 2) := by decide +kernel
theorem dX6_chooseBetween_86 : decode cX6_chooseBetween 86 = .ok (.ifCond .eq 24, 3) := by decide +kernel
theorem dX6_chooseBetween_89 : decode cX6_chooseBetween 89 = .ok (.iload 7, 2) := by decide +kernel
theorem dX6_chooseBetween_91 : decode cX6_chooseBetween 91 = .ok (.iload 4, 2) := by decide +kernel
theorem dX6_chooseBetween_93 : decode cX6_chooseBetween 93 = .ok (.if_icmp .lt 17, 3) := by decide +kernel
theorem dX6_chooseBetween_96 : decode cX6_chooseBetween 96 = .ok (.iload 7, 2) := by decide +kernel
theorem dX6_chooseBetween_98 : decode cX6_chooseBetween 98 = .ok (.iload 4, 2) := by decide +kernel
theorem dX6_chooseBetween_100 : decode cX6_chooseBetween 100 = .ok (.if_icmp .ne 21, 3) := by decide +kernel
theorem dX6_chooseBetween_103 : decode cX6_chooseBetween 103 = .ok (.iload 8, 2) := by decide +kernel
theorem dX6_chooseBetween_105 : decode cX6_chooseBetween 105 = .ok (.iload 5, 2) := by decide +kernel
theorem dX6_chooseBetween_107 : decode cX6_chooseBetween 107 = .ok (.if_icmp .ge 14, 3) := by decide +kernel
theorem dX6_chooseBetween_110 : decode cX6_chooseBetween 110 = .ok (.iload 6, 2) := by decide +kernel
theorem dX6_chooseBetween_112 : decode cX6_chooseBetween 112 = .ok (.istore_n 3, 1) := by decide +kernel
theorem dX6_chooseBetween_113 : decode cX6_chooseBetween 113 = .ok (.iload 7, 2) := by decide +kernel
theorem dX6_chooseBetween_115 : decode cX6_chooseBetween 115 = .ok (.istore 4, 2) := by decide +kernel
theorem dX6_chooseBetween_117 : decode cX6_chooseBetween 117 = .ok (.iload 8, 2) := by decide +kernel
theorem dX6_chooseBetween_119 : decode cX6_chooseBetween 119 = .ok (.istore 5, 2) := by decide +kernel
theorem dX6_chooseBetween_121 : decode cX6_chooseBetween 121 = .ok (.aload_n 0, 1) := by decide +kernel
theorem dX6_chooseBetween_122 : decode cX6_chooseBetween 122 = .ok (.getfield 33, 3) := by decide +kernel
theorem dX6_chooseBetween_125 : decode cX6_chooseBetween 125 = .ok (.aload_n 0, 1) := by decide +kernel
theorem dX6_chooseBetween_126 : decode cX6_chooseBetween 126 = .ok (.getfield 26, 3) := by decide +kernel
theorem dX6_chooseBetween_129 : decode cX6_chooseBetween 129 = .ok (.iload_n 1, 1) := by decide +kernel
theorem dX6_chooseBetween_130 : decode cX6_chooseBetween 130 = .ok (.iload_n 2, 1) := by decide +kernel
theorem dX6_chooseBetween_131 : decode cX6_chooseBetween 131 = .ok (.ineg, 1) := by decide +kernel
theorem dX6_chooseBetween_132 : decode cX6_chooseBetween 132 = .ok (.invokevirtual 191, 3) := by decide +kernel
theorem dX6_chooseBetween_135 : decode cX6_chooseBetween 135 = .ok (.iinc 6 1, 3) := by decide +kernel
theorem dX6_chooseBetween_138 : decode cX6_chooseBetween 138 = .ok (.goto (-113), 3) := by decide +kernel
theorem dX6_chooseBetween_141 : decode cX6_chooseBetween 141 = .ok (.aload_n 0, 1) := by decide +kernel
theorem dX6_chooseBetween_142 : decode cX6_chooseBetween 142 = .ok (.getfield 10, 3) := by decide +kernel
theorem dX6_chooseBetween_145 : decode cX6_chooseBetween 145 = .ok (.iload_n 1, 1) := by decide +kernel
theorem dX6_chooseBetween_146 : decode cX6_chooseBetween 146 = .ok (.iconst 2, 1) := by decide +kernel
theorem dX6_chooseBetween_147 : decode cX6_chooseBetween 147 = .ok (.iload_n 3, 1) := by decide +kernel
theorem dX6_chooseBetween_148 : decode cX6_chooseBetween 148 = .ok (.invokevirtual 92, 3) := by decide +kernel
theorem dX6_chooseBetween_151 : decode cX6_chooseBetween 151 = .ok (.aload_n 0, 1) := by decide +kernel
theorem dX6_chooseBetween_152 : decode cX6_chooseBetween 152 = .ok (.getfield 26, 3) := by decide +kernel
theorem dX6_chooseBetween_155 : decode cX6_chooseBetween 155 = .ok (.aload_n 0, 1) := by decide +kernel
theorem dX6_chooseBetween_156 : decode cX6_chooseBetween 156 = .ok (.getfield 10, 3) := by decide +kernel
theorem dX6_chooseBetween_159 : decode cX6_chooseBetween 159 = .ok (.iload_n 1, 1) := by decide +kernel
theorem dX6_chooseBetween_160 : decode cX6_chooseBetween 160 = .ok (.iload_n 3, 1) := by decide +kernel
theorem dX6_chooseBetween_161 : decode cX6_chooseBetween 161 = .ok (.invokevirtual 187, 3) := by decide +kernel
theorem dX6_chooseBetween_164 : decode cX6_chooseBetween 164 = .ok (.aload_n 0, 1) := by decide +kernel
theorem dX6_chooseBetween_165 : decode cX6_chooseBetween 165 = .ok (.getfield 33, 3) := by decide +kernel
theorem dX6_chooseBetween_168 : decode cX6_chooseBetween 168 = .ok (.aload_n 0, 1) := by decide +kernel
theorem dX6_chooseBetween_169 : decode cX6_chooseBetween 169 = .ok (.getfield 26, 3) := by decide +kernel
theorem dX6_chooseBetween_172 : decode cX6_chooseBetween 172 = .ok (.iload_n 1, 1) := by decide +kernel
theorem dX6_chooseBetween_173 : decode cX6_chooseBetween 173 = .ok (.iload_n 2, 1) := by decide +kernel
theorem dX6_chooseBetween_174 : decode cX6_chooseBetween 174 = .ok (.invokevirtual 191, 3) := by decide +kernel
theorem dX6_chooseBetween_177 : decode cX6_chooseBetween 177 = .ok (.return_, 1) := by decide +kernel
theorem dX6_setFraction_0 : decode cX6_setFraction 0 = .ok (.aload_n 0, 1) := by decide +kernel
theorem dX6_setFraction_1 : decode cX6_setFraction 1 = .ok (.iload_n 1, 1) := by decide +kernel
theorem dX6_setFraction_2 : decode cX6_setFraction 2 = .ok (.putfield 55, 3) := by decide +kernel
theorem dX6_setFraction_5 : decode cX6_setFraction 5 = .ok (.aload_n 0, 1) := by decide +kernel
theorem dX6_setFraction_6 : decode cX6_setFraction 6 = .ok (.aload_n 0, 1) := by decide +kernel
theorem dX6_setFraction_7 : decode cX6_setFraction 7 = .ok (.getfield 10, 3) := by decide +kernel
theorem dX6_setFraction_10 : decode cX6_setFraction 10 = .ok (.invokevirtual 103, 3) := by decide +kernel
theorem dX6_setFraction_13 : decode cX6_setFraction 13 = .ok (.putfield 59, 3) := by decide +kernel
theorem dX6_setFraction_16 : decode cX6_setFraction 16 = .ok (.iconst 0, 1) := by decide +kernel
theorem dX6_setFraction_17 : decode cX6_setFraction 17 = .ok (.istore_n 2, 1) := by decide +kernel
theorem dX6_setFraction_18 : decode cX6_setFraction 18 = .ok (.iload_n 2, 1) := by decide +kernel
theorem dX6_setFraction_19 : decode cX6_setFraction 19 = .ok (.iconst 4, 1) := by decide +kernel
theorem dX6_setFraction_20 : decode cX6_setFraction 20 = .ok (.if_icmp .ge 46, 3) := by decide +kernel
theorem dX6_setFraction_23 : decode cX6_setFraction 23 = .ok (.aload_n 0, 1) := by decide +kernel
theorem dX6_setFraction_24 : decode cX6_setFraction 24 = .ok (.getfield 59, 3) := by decide +kernel
theorem dX6_setFraction_27 : decode cX6_setFraction 27 = .ok (.iconst 1, 1) := by decide +kernel
theorem dX6_setFraction_28 : decode cX6_setFraction 28 = .ok (.if_icmp .le 38, 3) := by decide +kernel
theorem dX6_setFraction_31 : decode cX6_setFraction 31 = .ok (.aload_n 0, 1) := by decide +kernel
theorem dX6_setFraction_32 : decode cX6_setFraction 32 = .ok (.getfield 55, 3) := by decide +kernel
theorem dX6_setFraction_35 : decode cX6_setFraction 35 = .ok (.iconst 2, 1) := by decide +kernel
theorem dX6_setFraction_36 : decode cX6_setFraction 36 = .ok (.irem, 1) := by decide +kernel
theorem dX6_setFraction_37 : decode cX6_setFraction 37 = .ok (.ifCond .ne 29, 3) := by decide +kernel
theorem dX6_setFraction_40 : decode cX6_setFraction 40 = .ok (.aload_n 0, 1) := by decide +kernel
theorem dX6_setFraction_41 : decode cX6_setFraction 41 = .ok (.dup, 1) := by decide +kernel
theorem dX6_setFraction_42 : decode cX6_setFraction 42 = .ok (.getfield 55, 3) := by decide +kernel
theorem dX6_setFraction_45 : decode cX6_setFraction 45 = .ok (.iconst 2, 1) := by decide +kernel
theorem dX6_setFraction_46 : decode cX6_setFraction 46 = .ok (.idiv, 1) := by decide +kernel
theorem dX6_setFraction_47 : decode cX6_setFraction 47 = .ok (.putfield 55, 3) := by decide +kernel
theorem dX6_setFraction_50 : decode cX6_setFraction 50 = .ok (.aload_n 0, 1) := by decide +kernel
theorem dX6_setFraction_51 : decode cX6_setFraction 51 = .ok (.dup, 1) := by decide +kernel
theorem dX6_setFraction_52 : decode cX6_setFraction 52 = .ok (.getfield 59, 3) := by decide +kernel
theorem dX6_setFraction_55 : decode cX6_setFraction 55 = .ok (.iconst 2, 1) := by decide +kernel
theorem dX6_setFraction_56 : decode cX6_setFraction 56 = .ok (.idiv, 1) := by decide +kernel
theorem dX6_setFraction_57 : decode cX6_setFraction 57 = .ok (.putfield 59, 3) := by decide +kernel
theorem dX6_setFraction_60 : decode cX6_setFraction 60 = .ok (.iinc 2 1, 3) := by decide +kernel
theorem dX6_setFraction_63 : decode cX6_setFraction 63 = .ok (.goto (-45), 3) := by decide +kernel
theorem dX6_setFraction_66 : decode cX6_setFraction 66 = .ok (.return_, 1) := by decide +kernel
theorem dX6_loadsFact_0 : decode cX6_loadsFact 0 = .ok (.aload_n 0, 1) := by decide +kernel
theorem dX6_loadsFact_1 : decode cX6_loadsFact 1 = .ok (.getfield 33, 3) := by decide +kernel
theorem dX6_loadsFact_4 : decode cX6_loadsFact 4 = .ok (.invokevirtual 156, 3) := by decide +kernel
theorem dX6_loadsFact_7 : decode cX6_loadsFact 7 = .ok (.istore_n 2, 1) := by decide +kernel
theorem dX6_loadsFact_8 : decode cX6_loadsFact 8 = .ok (.aload_n 0, 1) := by decide +kernel
theorem dX6_loadsFact_9 : decode cX6_loadsFact 9 = .ok (.getfield 33, 3) := by decide +kernel
theorem dX6_loadsFact_12 : decode cX6_loadsFact 12 = .ok (.getfield 143, 3) := by decide +kernel
theorem dX6_loadsFact_15 : decode cX6_loadsFact 15 = .ok (.iload_n 2, 1) := by decide +kernel
theorem dX6_loadsFact_16 : decode cX6_loadsFact 16 = .ok (.iaload, 1) := by decide +kernel
theorem dX6_loadsFact_17 : decode cX6_loadsFact 17 = .ok (.istore_n 3, 1) := by decide +kernel
theorem dX6_loadsFact_18 : decode cX6_loadsFact 18 = .ok (.iload_n 1, 1) := by decide +kernel
theorem dX6_loadsFact_19 : decode cX6_loadsFact 19 = .ok (.tableswitch 53 0 2 #[25, 27, 40], 25) := by decide +kernel
theorem dX6_loadsFact_44 : decode cX6_loadsFact 44 = .ok (.iload_n 3, 1) := by decide +kernel
theorem dX6_loadsFact_45 : decode cX6_loadsFact 45 = .ok (.ireturn, 1) := by decide +kernel
theorem dX6_loadsFact_46 : decode cX6_loadsFact 46 = .ok (.aload_n 0, 1) := by decide +kernel
theorem dX6_loadsFact_47 : decode cX6_loadsFact 47 = .ok (.getfield 33, 3) := by decide +kernel
theorem dX6_loadsFact_50 : decode cX6_loadsFact 50 = .ok (.iload_n 3, 1) := by decide +kernel
theorem dX6_loadsFact_51 : decode cX6_loadsFact 51 = .ok (.aload_n 0, 1) := by decide +kernel
theorem dX6_loadsFact_52 : decode cX6_loadsFact 52 = .ok (.getfield 10, 3) := by decide +kernel
theorem dX6_loadsFact_55 : decode cX6_loadsFact 55 = .ok (.invokevirtual 231, 3) := by decide +kernel
theorem dX6_loadsFact_58 : decode cX6_loadsFact 58 = .ok (.ireturn, 1) := by decide +kernel
theorem dX6_loadsFact_59 : decode cX6_loadsFact 59 = .ok (.aload_n 0, 1) := by decide +kernel
theorem dX6_loadsFact_60 : decode cX6_loadsFact 60 = .ok (.getfield 33, 3) := by decide +kernel
theorem dX6_loadsFact_63 : decode cX6_loadsFact 63 = .ok (.iconst 1, 1) := by decide +kernel
theorem dX6_loadsFact_64 : decode cX6_loadsFact 64 = .ok (.aload_n 0, 1) := by decide +kernel
theorem dX6_loadsFact_65 : decode cX6_loadsFact 65 = .ok (.getfield 10, 3) := by decide +kernel
theorem dX6_loadsFact_68 : decode cX6_loadsFact 68 = .ok (.invokevirtual 231, 3) := by decide +kernel
theorem dX6_loadsFact_71 : decode cX6_loadsFact 71 = .ok (.ireturn, 1) := by decide +kernel
theorem dX6_loadsFact_72 : decode cX6_loadsFact 72 = .ok (.iload_n 3, 1) := by decide +kernel
theorem dX6_loadsFact_73 : decode cX6_loadsFact 73 = .ok (.ifCond .ne 7, 3) := by decide +kernel
theorem dX6_loadsFact_76 : decode cX6_loadsFact 76 = .ok (.iconst (-1), 1) := by decide +kernel
theorem dX6_loadsFact_77 : decode cX6_loadsFact 77 = .ok (.goto 7, 3) := by decide +kernel
theorem dX6_loadsFact_80 : decode cX6_loadsFact 80 = .ok (.iload_n 2, 1) := by decide +kernel
theorem dX6_loadsFact_81 : decode cX6_loadsFact 81 = .ok (.invokestatic 159, 3) := by decide +kernel
theorem dX6_loadsFact_84 : decode cX6_loadsFact 84 = .ok (.ireturn, 1) := by decide +kernel
theorem dX6_runFact_0 : decode cX6_runFact 0 = .ok (.aload_n 0, 1) := by decide +kernel
theorem dX6_runFact_1 : decode cX6_runFact 1 = .ok (.getfield 40, 3) := by decide +kernel
theorem dX6_runFact_4 : decode cX6_runFact 4 = .ok (.aload_n 0, 1) := by decide +kernel
theorem dX6_runFact_5 : decode cX6_runFact 5 = .ok (.getfield 10, 3) := by decide +kernel
theorem dX6_runFact_8 : decode cX6_runFact 8 = .ok (.getfield 73, 3) := by decide +kernel
theorem dX6_runFact_11 : decode cX6_runFact 11 = .ok (.invokevirtual 235, 3) := by decide +kernel
theorem dX6_runFact_14 : decode cX6_runFact 14 = .ok (.istore_n 2, 1) := by decide +kernel
theorem dX6_runFact_15 : decode cX6_runFact 15 = .ok (.iload_n 1, 1) := by decide +kernel
theorem dX6_runFact_16 : decode cX6_runFact 16 = .ok (.tableswitch 76 0 3 #[32, 40, 55, 74], 32) := by decide +kernel
theorem dX6_runFact_48 : decode cX6_runFact 48 = .ok (.aload_n 0, 1) := by decide +kernel
theorem dX6_runFact_49 : decode cX6_runFact 49 = .ok (.getfield 40, 3) := by decide +kernel
theorem dX6_runFact_52 : decode cX6_runFact 52 = .ok (.getfield 181, 3) := by decide +kernel
theorem dX6_runFact_55 : decode cX6_runFact 55 = .ok (.ireturn, 1) := by decide +kernel
theorem dX6_runFact_56 : decode cX6_runFact 56 = .ok (.aload_n 0, 1) := by decide +kernel
theorem dX6_runFact_57 : decode cX6_runFact 57 = .ok (.getfield 40, 3) := by decide +kernel
theorem dX6_runFact_60 : decode cX6_runFact 60 = .ok (.aload_n 0, 1) := by decide +kernel
theorem dX6_runFact_61 : decode cX6_runFact 61 = .ok (.getfield 10, 3) := by decide +kernel
theorem dX6_runFact_64 : decode cX6_runFact 64 = .ok (.getfield 73, 3) := by decide +kernel
theorem dX6_runFact_67 : decode cX6_runFact 67 = .ok (.invokevirtual 238, 3) := by decide +kernel
theorem dX6_runFact_70 : decode cX6_runFact 70 = .ok (.ireturn, 1) := by decide +kernel
theorem dX6_runFact_71 : decode cX6_runFact 71 = .ok (.iload_n 2, 1) := by decide +kernel
theorem dX6_runFact_72 : decode cX6_runFact 72 = .ok (.iconst (-1), 1) := by decide +kernel
theorem dX6_runFact_73 : decode cX6_runFact 73 = .ok (.if_icmp .ne 7, 3) := by decide +kernel
theorem dX6_runFact_76 : decode cX6_runFact 76 = .ok (.iconst 0, 1) := by decide +kernel
theorem dX6_runFact_77 : decode cX6_runFact 77 = .ok (.goto 12, 3) := by decide +kernel
theorem dX6_runFact_80 : decode cX6_runFact 80 = .ok (.aload_n 0, 1) := by decide +kernel
theorem dX6_runFact_81 : decode cX6_runFact 81 = .ok (.getfield 40, 3) := by decide +kernel
theorem dX6_runFact_84 : decode cX6_runFact 84 = .ok (.getfield 175, 3) := by decide +kernel
theorem dX6_runFact_87 : decode cX6_runFact 87 = .ok (.iload_n 2, 1) := by decide +kernel
theorem dX6_runFact_88 : decode cX6_runFact 88 = .ok (.iaload, 1) := by decide +kernel
theorem dX6_runFact_89 : decode cX6_runFact 89 = .ok (.ireturn, 1) := by decide +kernel
theorem dX6_runFact_90 : decode cX6_runFact 90 = .ok (.iload_n 2, 1) := by decide +kernel
theorem dX6_runFact_91 : decode cX6_runFact 91 = .ok (.ireturn, 1) := by decide +kernel
theorem dX6_runFact_92 : decode cX6_runFact 92 = .ok (.aload_n 0, 1) := by decide +kernel
theorem dX6_runFact_93 : decode cX6_runFact 93 = .ok (.getfield 40, 3) := by decide +kernel
theorem dX6_runFact_96 : decode cX6_runFact 96 = .ok (.getfield 241, 3) := by decide +kernel
theorem dX6_runFact_99 : decode cX6_runFact 99 = .ok (.ireturn, 1) := by decide +kernel
theorem dX7_init_0 : decode cX7_init 0 = .ok (.aload_n 0, 1) := by decide +kernel
theorem dX7_init_1 : decode cX7_init 1 = .ok (.invokespecial 1, 3) := by decide +kernel
theorem dX7_init_4 : decode cX7_init 4 = .ok (.aload_n 0, 1) := by decide +kernel
theorem dX7_init_5 : decode cX7_init 5 = .ok (.iconst 3, 1) := by decide +kernel
theorem dX7_init_6 : decode cX7_init 6 = .ok (.newarray .int, 2) := by decide +kernel
theorem dX7_init_8 : decode cX7_init 8 = .ok (.putfield 7, 3) := by decide +kernel
theorem dX7_init_11 : decode cX7_init 11 = .ok (.aload_n 0, 1) := by decide +kernel
theorem dX7_init_12 : decode cX7_init 12 = .ok (.iconst 3, 1) := by decide +kernel
theorem dX7_init_13 : decode cX7_init 13 = .ok (.putfield 13, 3) := by decide +kernel
theorem dX7_init_16 : decode cX7_init 16 = .ok (.aload_n 0, 1) := by decide +kernel
theorem dX7_init_17 : decode cX7_init 17 = .ok (.iconst 2, 1) := by decide +kernel
theorem dX7_init_18 : decode cX7_init 18 = .ok (.newarray .int, 2) := by decide +kernel
theorem dX7_init_20 : decode cX7_init 20 = .ok (.putfield 17, 3) := by decide +kernel
theorem dX7_init_23 : decode cX7_init 23 = .ok (.aload_n 0, 1) := by decide +kernel
theorem dX7_init_24 : decode cX7_init 24 = .ok (.bipush 16, 2) := by decide +kernel
theorem dX7_init_26 : decode cX7_init 26 = .ok (.newarray .int, 2) := by decide +kernel
theorem dX7_init_28 : decode cX7_init 28 = .ok (.putfield 20, 3) := by decide +kernel
theorem dX7_init_31 : decode cX7_init 31 = .ok (.aload_n 0, 1) := by decide +kernel
theorem dX7_init_32 : decode cX7_init 32 = .ok (.bipush 16, 2) := by decide +kernel
theorem dX7_init_34 : decode cX7_init 34 = .ok (.newarray .int, 2) := by decide +kernel
theorem dX7_init_36 : decode cX7_init 36 = .ok (.putfield 23, 3) := by decide +kernel
theorem dX7_init_39 : decode cX7_init 39 = .ok (.aload_n 0, 1) := by decide +kernel
theorem dX7_init_40 : decode cX7_init 40 = .ok (.bipush 16, 2) := by decide +kernel
theorem dX7_init_42 : decode cX7_init 42 = .ok (.newarray .int, 2) := by decide +kernel
theorem dX7_init_44 : decode cX7_init 44 = .ok (.putfield 26, 3) := by decide +kernel
theorem dX7_init_47 : decode cX7_init 47 = .ok (.aload_n 0, 1) := by decide +kernel
theorem dX7_init_48 : decode cX7_init 48 = .ok (.bipush 16, 2) := by decide +kernel
theorem dX7_init_50 : decode cX7_init 50 = .ok (.newarray .int, 2) := by decide +kernel
theorem dX7_init_52 : decode cX7_init 52 = .ok (.putfield 29, 3) := by decide +kernel
theorem dX7_init_55 : decode cX7_init 55 = .ok (.aload_n 0, 1) := by decide +kernel
theorem dX7_init_56 : decode cX7_init 56 = .ok (.sipush 408, 3) := by decide +kernel
theorem dX7_init_59 : decode cX7_init 59 = .ok (.newarray .int, 2) := by decide +kernel
theorem dX7_init_61 : decode cX7_init 61 = .ok (.putfield 32, 3) := by decide +kernel
theorem dX7_init_64 : decode cX7_init 64 = .ok (.aload_n 0, 1) := by decide +kernel
theorem dX7_init_65 : decode cX7_init 65 = .ok (.bipush 16, 2) := by decide +kernel
theorem dX7_init_67 : decode cX7_init 67 = .ok (.newarray .int, 2) := by decide +kernel
theorem dX7_init_69 : decode cX7_init 69 = .ok (.putfield 35, 3) := by decide +kernel
theorem dX7_init_72 : decode cX7_init 72 = .ok (.aload_n 0, 1) := by decide +kernel
theorem dX7_init_73 : decode cX7_init 73 = .ok (.bipush 16, 2) := by decide +kernel
theorem dX7_init_75 : decode cX7_init 75 = .ok (.newarray .int, 2) := by decide +kernel
theorem dX7_init_77 : decode cX7_init 77 = .ok (.putfield 38, 3) := by decide +kernel
theorem dX7_init_80 : decode cX7_init 80 = .ok (.aload_n 0, 1) := by decide +kernel
theorem dX7_init_81 : decode cX7_init 81 = .ok (.sipush 144, 3) := by decide +kernel
theorem dX7_init_84 : decode cX7_init 84 = .ok (.newarray .int, 2) := by decide +kernel
theorem dX7_init_86 : decode cX7_init 86 = .ok (.putfield 41, 3) := by decide +kernel
theorem dX7_init_89 : decode cX7_init 89 = .ok (.aload_n 0, 1) := by decide +kernel
theorem dX7_init_90 : decode cX7_init 90 = .ok (.bipush 64, 2) := by decide +kernel
theorem dX7_init_92 : decode cX7_init 92 = .ok (.newarray .int, 2) := by decide +kernel
theorem dX7_init_94 : decode cX7_init 94 = .ok (.putfield 44, 3) := by decide +kernel
theorem dX7_init_97 : decode cX7_init 97 = .ok (.aload_n 0, 1) := by decide +kernel
theorem dX7_init_98 : decode cX7_init 98 = .ok (.iconst 1, 1) := by decide +kernel
theorem dX7_init_99 : decode cX7_init 99 = .ok (.putfield 47, 3) := by decide +kernel
theorem dX7_init_102 : decode cX7_init 102 = .ok (.aload_n 0, 1) := by decide +kernel
theorem dX7_init_103 : decode cX7_init 103 = .ok (.bipush 16, 2) := by decide +kernel
theorem dX7_init_105 : decode cX7_init 105 = .ok (.newarray .int, 2) := by decide +kernel
theorem dX7_init_107 : decode cX7_init 107 = .ok (.putfield 50, 3) := by decide +kernel
theorem dX7_init_110 : decode cX7_init 110 = .ok (.aload_n 0, 1) := by decide +kernel
theorem dX7_init_111 : decode cX7_init 111 = .ok (.bipush 16, 2) := by decide +kernel
theorem dX7_init_113 : decode cX7_init 113 = .ok (.newarray .int, 2) := by decide +kernel
theorem dX7_init_115 : decode cX7_init 115 = .ok (.putfield 53, 3) := by decide +kernel
theorem dX7_init_118 : decode cX7_init 118 = .ok (.aload_n 0, 1) := by decide +kernel
theorem dX7_init_119 : decode cX7_init 119 = .ok (.bipush 16, 2) := by decide +kernel
theorem dX7_init_121 : decode cX7_init 121 = .ok (.newarray .int, 2) := by decide +kernel
theorem dX7_init_123 : decode cX7_init 123 = .ok (.putfield 56, 3) := by decide +kernel
theorem dX7_init_126 : decode cX7_init 126 = .ok (.aload_n 0, 1) := by decide +kernel
theorem dX7_init_127 : decode cX7_init 127 = .ok (.bipush 16, 2) := by decide +kernel
theorem dX7_init_129 : decode cX7_init 129 = .ok (.newarray .int, 2) := by decide +kernel
theorem dX7_init_131 : decode cX7_init 131 = .ok (.putfield 59, 3) := by decide +kernel
theorem dX7_init_134 : decode cX7_init 134 = .ok (.aload_n 0, 1) := by decide +kernel
theorem dX7_init_135 : decode cX7_init 135 = .ok (.bipush 16, 2) := by decide +kernel
theorem dX7_init_137 : decode cX7_init 137 = .ok (.newarray .int, 2) := by decide +kernel
theorem dX7_init_139 : decode cX7_init 139 = .ok (.putfield 62, 3) := by decide +kernel
theorem dX7_init_142 : decode cX7_init 142 = .ok (.aload_n 0, 1) := by decide +kernel
theorem dX7_init_143 : decode cX7_init 143 = .ok (.bipush 120, 2) := by decide +kernel
theorem dX7_init_145 : decode cX7_init 145 = .ok (.newarray .int, 2) := by decide +kernel
theorem dX7_init_147 : decode cX7_init 147 = .ok (.putfield 65, 3) := by decide +kernel
theorem dX7_init_150 : decode cX7_init 150 = .ok (.return_, 1) := by decide +kernel
theorem dX7_bad_0 : decode cX7_bad 0 = .ok (.aload_n 0, 1) := by decide +kernel
theorem dX7_bad_1 : decode cX7_bad 1 = .ok (.getfield 7, 3) := by decide +kernel
theorem dX7_bad_4 : decode cX7_bad 4 = .ok (.iconst 0, 1) := by decide +kernel
theorem dX7_bad_5 : decode cX7_bad 5 = .ok (.dup2, 1) := by decide +kernel
theorem dX7_bad_6 : decode cX7_bad 6 = .ok (.iaload, 1) := by decide +kernel
theorem dX7_bad_7 : decode cX7_bad 7 = .ok (.iconst 1, 1) := by decide +kernel
theorem dX7_bad_8 : decode cX7_bad 8 = .ok (.iadd, 1) := by decide +kernel
theorem dX7_bad_9 : decode cX7_bad 9 = .ok (.iastore, 1) := by decide +kernel
theorem dX7_bad_10 : decode cX7_bad 10 = .ok (.bipush (-2), 2) := by decide +kernel
theorem dX7_bad_12 : decode cX7_bad 12 = .ok (.ireturn, 1) := by decide +kernel
theorem dX7_no_0 : decode cX7_no 0 = .ok (.aload_n 0, 1) := by decide +kernel
theorem dX7_no_1 : decode cX7_no 1 = .ok (.getfield 7, 3) := by decide +kernel
theorem dX7_no_4 : decode cX7_no 4 = .ok (.iconst 1, 1) := by decide +kernel
theorem dX7_no_5 : decode cX7_no 5 = .ok (.dup2, 1) := by decide +kernel
theorem dX7_no_6 : decode cX7_no 6 = .ok (.iaload, 1) := by decide +kernel
theorem dX7_no_7 : decode cX7_no 7 = .ok (.iconst 1, 1) := by decide +kernel
theorem dX7_no_8 : decode cX7_no 8 = .ok (.iadd, 1) := by decide +kernel
theorem dX7_no_9 : decode cX7_no 9 = .ok (.iastore, 1) := by decide +kernel
theorem dX7_no_10 : decode cX7_no 10 = .ok (.bipush (-3), 2) := by decide +kernel
theorem dX7_no_12 : decode cX7_no 12 = .ok (.ireturn, 1) := by decide +kernel
theorem dX7_full_0 : decode cX7_full 0 = .ok (.aload_n 0, 1) := by decide +kernel
theorem dX7_full_1 : decode cX7_full 1 = .ok (.getfield 7, 3) := by decide +kernel
theorem dX7_full_4 : decode cX7_full 4 = .ok (.iconst 2, 1) := by decide +kernel
theorem dX7_full_5 : decode cX7_full 5 = .ok (.dup2, 1) := by decide +kernel
theorem dX7_full_6 : decode cX7_full 6 = .ok (.iaload, 1) := by decide +kernel
theorem dX7_full_7 : decode cX7_full 7 = .ok (.iconst 1, 1) := by decide +kernel
theorem dX7_full_8 : decode cX7_full 8 = .ok (.iadd, 1) := by decide +kernel
theorem dX7_full_9 : decode cX7_full 9 = .ok (.iastore, 1) := by decide +kernel
theorem dX7_full_10 : decode cX7_full 10 = .ok (.bipush (-4), 2) := by decide +kernel
theorem dX7_full_12 : decode cX7_full 12 = .ok (.ireturn, 1) := by decide +kernel
theorem dX7_in_0 : decode cX7_in 0 = .ok (.iload_n 0, 1) := by decide +kernel
theorem dX7_in_1 : decode cX7_in 1 = .ok (.iload_n 1, 1) := by decide +kernel
theorem dX7_in_2 : decode cX7_in 2 = .ok (.if_icmp .lt 12, 3) := by decide +kernel
theorem dX7_in_5 : decode cX7_in 5 = .ok (.iload_n 0, 1) := by decide +kernel
theorem dX7_in_6 : decode cX7_in 6 = .ok (.iload_n 2, 1) := by decide +kernel
theorem dX7_in_7 : decode cX7_in 7 = .ok (.if_icmp .gt 7, 3) := by decide +kernel
theorem dX7_in_10 : decode cX7_in 10 = .ok (.iconst 1, 1) := by decide +kernel
theorem dX7_in_11 : decode cX7_in 11 = .ok (.goto 4, 3) := by decide +kernel
theorem dX7_in_14 : decode cX7_in 14 = .ok (.iconst 0, 1) := by decide +kernel
theorem dX7_in_15 : decode cX7_in 15 = .ok (.ireturn, 1) := by decide +kernel
theorem dX7_corners_0 : decode cX7_corners 0 = .ok (.iconst 1, 1) := by decide +kernel
theorem dX7_corners_1 : decode cX7_corners 1 = .ok (.aload_n 0, 1) := by decide +kernel
theorem dX7_corners_2 : decode cX7_corners 2 = .ok (.getfield 13, 3) := by decide +kernel
theorem dX7_corners_5 : decode cX7_corners 5 = .ok (.ishl, 1) := by decide +kernel
theorem dX7_corners_6 : decode cX7_corners 6 = .ok (.ireturn, 1) := by decide +kernel
theorem dX7_isCorner_0 : decode cX7_isCorner 0 = .ok (.iload_n 1, 1) := by decide +kernel
theorem dX7_isCorner_1 : decode cX7_isCorner 1 = .ok (.iconst 0, 1) := by decide +kernel
theorem dX7_isCorner_2 : decode cX7_isCorner 2 = .ok (.aload_n 0, 1) := by decide +kernel
theorem dX7_isCorner_3 : decode cX7_isCorner 3 = .ok (.invokevirtual 68, 3) := by decide +kernel
theorem dX7_isCorner_6 : decode cX7_isCorner 6 = .ok (.iconst 1, 1) := by decide +kernel
theorem dX7_isCorner_7 : decode cX7_isCorner 7 = .ok (.isub, 1) := by decide +kernel
theorem dX7_isCorner_8 : decode cX7_isCorner 8 = .ok (.invokestatic 72, 3) := by decide +kernel
theorem dX7_isCorner_11 : decode cX7_isCorner 11 = .ok (.ireturn, 1) := by decide +kernel
theorem dX7_isParcel_0 : decode cX7_isParcel 0 = .ok (.iload_n 1, 1) := by decide +kernel
theorem dX7_isParcel_1 : decode cX7_isParcel 1 = .ok (.iconst 0, 1) := by decide +kernel
theorem dX7_isParcel_2 : decode cX7_isParcel 2 = .ok (.aload_n 0, 1) := by decide +kernel
theorem dX7_isParcel_3 : decode cX7_isParcel 3 = .ok (.getfield 76, 3) := by decide +kernel
theorem dX7_isParcel_6 : decode cX7_isParcel 6 = .ok (.iconst 1, 1) := by decide +kernel
theorem dX7_isParcel_7 : decode cX7_isParcel 7 = .ok (.isub, 1) := by decide +kernel
theorem dX7_isParcel_8 : decode cX7_isParcel 8 = .ok (.invokestatic 72, 3) := by decide +kernel
theorem dX7_isParcel_11 : decode cX7_isParcel 11 = .ok (.ireturn, 1) := by decide +kernel
theorem dX7_isRank_0 : decode cX7_isRank 0 = .ok (.iload_n 0, 1) := by decide +kernel
theorem dX7_isRank_1 : decode cX7_isRank 1 = .ok (.iconst 0, 1) := by decide +kernel
theorem dX7_isRank_2 : decode cX7_isRank 2 = .ok (.bipush 99, 2) := by decide +kernel
theorem dX7_isRank_4 : decode cX7_isRank 4 = .ok (.invokestatic 72, 3) := by decide +kernel
theorem dX7_isRank_7 : decode cX7_isRank 7 = .ok (.ireturn, 1) := by decide +kernel
theorem dX7_leavesState_0 : decode cX7_leavesState 0 = .ok (.aload_n 0, 1) := by decide +kernel
theorem dX7_leavesState_1 : decode cX7_leavesState 1 = .ok (.getfield 79, 3) := by decide +kernel
theorem dX7_leavesState_4 : decode cX7_leavesState 4 = .ok (.bipush 6, 2) := by decide +kernel
theorem dX7_leavesState_6 : decode cX7_leavesState 6 = .ok (.if_icmp .ne 43, 3) := by decide +kernel
theorem dX7_leavesState_9 : decode cX7_leavesState 9 = .ok (.iconst 0, 1) := by decide +kernel
theorem dX7_leavesState_10 : decode cX7_leavesState 10 = .ok (.istore_n 1, 1) := by decide +kernel
theorem dX7_leavesState_11 : decode cX7_leavesState 11 = .ok (.iload_n 1, 1) := by decide +kernel
theorem dX7_leavesState_12 : decode cX7_leavesState 12 = .ok (.sipush 340, 3) := by decide +kernel
theorem dX7_leavesState_15 : decode cX7_leavesState 15 = .ok (.if_icmp .ge 24, 3) := by decide +kernel
theorem dX7_leavesState_18 : decode cX7_leavesState 18 = .ok (.aload_n 0, 1) := by decide +kernel
theorem dX7_leavesState_19 : decode cX7_leavesState 19 = .ok (.getfield 32, 3) := by decide +kernel
theorem dX7_leavesState_22 : decode cX7_leavesState 22 = .ok (.iload_n 1, 1) := by decide +kernel
theorem dX7_leavesState_23 : decode cX7_leavesState 23 = .ok (.aload_n 0, 1) := by decide +kernel
theorem dX7_leavesState_24 : decode cX7_leavesState 24 = .ok (.getfield 32, 3) := by decide +kernel
theorem dX7_leavesState_27 : decode cX7_leavesState 27 = .ok (.iload_n 1, 1) := by decide +kernel
theorem dX7_leavesState_28 : decode cX7_leavesState 28 = .ok (.bipush 68, 2) := by decide +kernel
theorem dX7_leavesState_30 : decode cX7_leavesState 30 = .ok (.iadd, 1) := by decide +kernel
theorem dX7_leavesState_31 : decode cX7_leavesState 31 = .ok (.iaload, 1) := by decide +kernel
theorem dX7_leavesState_32 : decode cX7_leavesState 32 = .ok (.iastore, 1) := by decide +kernel
theorem dX7_leavesState_33 : decode cX7_leavesState 33 = .ok (.iinc 1 1, 3) := by decide +kernel
theorem dX7_leavesState_36 : decode cX7_leavesState 36 = .ok (.goto (-25), 3) := by decide +kernel
theorem dX7_leavesState_39 : decode cX7_leavesState 39 = .ok (.aload_n 0, 1) := by decide +kernel
theorem dX7_leavesState_40 : decode cX7_leavesState 40 = .ok (.dup, 1) := by decide +kernel
theorem dX7_leavesState_41 : decode cX7_leavesState 41 = .ok (.getfield 79, 3) := by decide +kernel
theorem dX7_leavesState_44 : decode cX7_leavesState 44 = .ok (.iconst 1, 1) := by decide +kernel
theorem dX7_leavesState_45 : decode cX7_leavesState 45 = .ok (.isub, 1) := by decide +kernel
theorem dX7_leavesState_46 : decode cX7_leavesState 46 = .ok (.putfield 79, 3) := by decide +kernel
theorem dX7_leavesState_49 : decode cX7_leavesState 49 = .ok (.bipush 68, 2) := by decide +kernel
theorem dX7_leavesState_51 : decode cX7_leavesState 51 = .ok (.aload_n 0, 1) := by decide +kernel
theorem dX7_leavesState_52 : decode cX7_leavesState 52 = .ok (.getfield 79, 3) := by decide +kernel
theorem dX7_leavesState_55 : decode cX7_leavesState 55 = .ok (.imul, 1) := by decide +kernel
theorem dX7_leavesState_56 : decode cX7_leavesState 56 = .ok (.istore_n 1, 1) := by decide +kernel
theorem dX7_leavesState_57 : decode cX7_leavesState 57 = .ok (.aload_n 0, 1) := by decide +kernel
theorem dX7_leavesState_58 : decode cX7_leavesState 58 = .ok (.getfield 32, 3) := by decide +kernel
theorem dX7_leavesState_61 : decode cX7_leavesState 61 = .ok (.iload_n 1, 1) := by decide +kernel
theorem dX7_leavesState_62 : decode cX7_leavesState 62 = .ok (.aload_n 0, 1) := by decide +kernel
theorem dX7_leavesState_63 : decode cX7_leavesState 63 = .ok (.getfield 13, 3) := by decide +kernel
theorem dX7_leavesState_66 : decode cX7_leavesState 66 = .ok (.iastore, 1) := by decide +kernel
theorem dX7_leavesState_67 : decode cX7_leavesState 67 = .ok (.aload_n 0, 1) := by decide +kernel
theorem dX7_leavesState_68 : decode cX7_leavesState 68 = .ok (.getfield 32, 3) := by decide +kernel
theorem dX7_leavesState_71 : decode cX7_leavesState 71 = .ok (.iload_n 1, 1) := by decide +kernel
theorem dX7_leavesState_72 : decode cX7_leavesState 72 = .ok (.iconst 1, 1) := by decide +kernel
theorem dX7_leavesState_73 : decode cX7_leavesState 73 = .ok (.iadd, 1) := by decide +kernel
theorem dX7_leavesState_74 : decode cX7_leavesState 74 = .ok (.aload_n 0, 1) := by decide +kernel
theorem dX7_leavesState_75 : decode cX7_leavesState 75 = .ok (.getfield 76, 3) := by decide +kernel
theorem dX7_leavesState_78 : decode cX7_leavesState 78 = .ok (.iastore, 1) := by decide +kernel
theorem dX7_leavesState_79 : decode cX7_leavesState 79 = .ok (.aload_n 0, 1) := by decide +kernel
theorem dX7_leavesState_80 : decode cX7_leavesState 80 = .ok (.getfield 32, 3) := by decide +kernel
theorem dX7_leavesState_83 : decode cX7_leavesState 83 = .ok (.iload_n 1, 1) := by decide +kernel
theorem dX7_leavesState_84 : decode cX7_leavesState 84 = .ok (.iconst 2, 1) := by decide +kernel
theorem dX7_leavesState_85 : decode cX7_leavesState 85 = .ok (.iadd, 1) := by decide +kernel
