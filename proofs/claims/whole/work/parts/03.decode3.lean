theorem d_M_angleAt_33 : decode b_M_angleAt 33 = .ok (.imul, 1) := by decide +kernel
theorem d_M_angleAt_34 : decode b_M_angleAt 34 = .ok (.aload_n 0, 1) := by decide +kernel
theorem d_M_angleAt_35 : decode b_M_angleAt 35 = .ok (.iload_n 1, 1) := by decide +kernel
theorem d_M_angleAt_36 : decode b_M_angleAt 36 = .ok (.invokevirtual 180, 3) := by decide +kernel
theorem d_M_angleAt_39 : decode b_M_angleAt 39 = .ok (.aload_n 0, 1) := by decide +kernel
theorem d_M_angleAt_40 : decode b_M_angleAt 40 = .ok (.iload_n 2, 1) := by decide +kernel
theorem d_M_angleAt_41 : decode b_M_angleAt 41 = .ok (.invokevirtual 180, 3) := by decide +kernel
theorem d_M_angleAt_44 : decode b_M_angleAt 44 = .ok (.isub, 1) := by decide +kernel
theorem d_M_angleAt_45 : decode b_M_angleAt 45 = .ok (.aload_n 0, 1) := by decide +kernel
theorem d_M_angleAt_46 : decode b_M_angleAt 46 = .ok (.iload_n 1, 1) := by decide +kernel
theorem d_M_angleAt_47 : decode b_M_angleAt 47 = .ok (.iconst 1, 1) := by decide +kernel
theorem d_M_angleAt_48 : decode b_M_angleAt 48 = .ok (.iadd, 1) := by decide +kernel
theorem d_M_angleAt_49 : decode b_M_angleAt 49 = .ok (.invokevirtual 180, 3) := by decide +kernel
theorem d_M_angleAt_52 : decode b_M_angleAt 52 = .ok (.aload_n 0, 1) := by decide +kernel
theorem d_M_angleAt_53 : decode b_M_angleAt 53 = .ok (.iload_n 1, 1) := by decide +kernel
theorem d_M_angleAt_54 : decode b_M_angleAt 54 = .ok (.invokevirtual 180, 3) := by decide +kernel
theorem d_M_angleAt_57 : decode b_M_angleAt 57 = .ok (.isub, 1) := by decide +kernel
theorem d_M_angleAt_58 : decode b_M_angleAt 58 = .ok (.imul, 1) := by decide +kernel
theorem d_M_angleAt_59 : decode b_M_angleAt 59 = .ok (.iadd, 1) := by decide +kernel
theorem d_M_angleAt_60 : decode b_M_angleAt 60 = .ok (.istore_n 3, 1) := by decide +kernel
theorem d_M_angleAt_61 : decode b_M_angleAt 61 = .ok (.iload_n 3, 1) := by decide +kernel
theorem d_M_angleAt_62 : decode b_M_angleAt 62 = .ok (.ifCond .gt 6, 3) := by decide +kernel
theorem d_M_angleAt_65 : decode b_M_angleAt 65 = .ok (.bipush 64, 2) := by decide +kernel
theorem d_M_angleAt_67 : decode b_M_angleAt 67 = .ok (.ireturn, 1) := by decide +kernel
theorem d_M_angleAt_68 : decode b_M_angleAt 68 = .ok (.bipush 16, 2) := by decide +kernel
theorem d_M_angleAt_70 : decode b_M_angleAt 70 = .ok (.aload_n 0, 1) := by decide +kernel
theorem d_M_angleAt_71 : decode b_M_angleAt 71 = .ok (.iload_n 1, 1) := by decide +kernel
theorem d_M_angleAt_72 : decode b_M_angleAt 72 = .ok (.invokevirtual 183, 3) := by decide +kernel
theorem d_M_angleAt_75 : decode b_M_angleAt 75 = .ok (.invokestatic 143, 3) := by decide +kernel
theorem d_M_angleAt_78 : decode b_M_angleAt 78 = .ok (.imul, 1) := by decide +kernel
theorem d_M_angleAt_79 : decode b_M_angleAt 79 = .ok (.iload_n 3, 1) := by decide +kernel
theorem d_M_angleAt_80 : decode b_M_angleAt 80 = .ok (.idiv, 1) := by decide +kernel
theorem d_M_angleAt_81 : decode b_M_angleAt 81 = .ok (.istore 4, 2) := by decide +kernel
theorem d_M_angleAt_83 : decode b_M_angleAt 83 = .ok (.iload 4, 2) := by decide +kernel
theorem d_M_angleAt_85 : decode b_M_angleAt 85 = .ok (.bipush 63, 2) := by decide +kernel
theorem d_M_angleAt_87 : decode b_M_angleAt 87 = .ok (.if_icmp .le 8, 3) := by decide +kernel
theorem d_M_angleAt_90 : decode b_M_angleAt 90 = .ok (.bipush 63, 2) := by decide +kernel
theorem d_M_angleAt_92 : decode b_M_angleAt 92 = .ok (.goto 5, 3) := by decide +kernel
theorem d_M_angleAt_95 : decode b_M_angleAt 95 = .ok (.iload 4, 2) := by decide +kernel
theorem d_M_angleAt_97 : decode b_M_angleAt 97 = .ok (.ireturn, 1) := by decide +kernel
theorem d_M_turnAt_0 : decode b_M_turnAt 0 = .ok (.aload_n 0, 1) := by decide +kernel
theorem d_M_turnAt_1 : decode b_M_turnAt 1 = .ok (.iload_n 1, 1) := by decide +kernel
theorem d_M_turnAt_2 : decode b_M_turnAt 2 = .ok (.invokevirtual 183, 3) := by decide +kernel
theorem d_M_turnAt_5 : decode b_M_turnAt 5 = .ok (.istore_n 2, 1) := by decide +kernel
theorem d_M_turnAt_6 : decode b_M_turnAt 6 = .ok (.iload_n 2, 1) := by decide +kernel
theorem d_M_turnAt_7 : decode b_M_turnAt 7 = .ok (.ifCond .le 7, 3) := by decide +kernel
theorem d_M_turnAt_10 : decode b_M_turnAt 10 = .ok (.iconst 1, 1) := by decide +kernel
theorem d_M_turnAt_11 : decode b_M_turnAt 11 = .ok (.goto 12, 3) := by decide +kernel
theorem d_M_turnAt_14 : decode b_M_turnAt 14 = .ok (.iload_n 2, 1) := by decide +kernel
theorem d_M_turnAt_15 : decode b_M_turnAt 15 = .ok (.ifCond .ge 7, 3) := by decide +kernel
theorem d_M_turnAt_18 : decode b_M_turnAt 18 = .ok (.iconst (-1), 1) := by decide +kernel
theorem d_M_turnAt_19 : decode b_M_turnAt 19 = .ok (.goto 4, 3) := by decide +kernel
theorem d_M_turnAt_22 : decode b_M_turnAt 22 = .ok (.iconst 0, 1) := by decide +kernel
theorem d_M_turnAt_23 : decode b_M_turnAt 23 = .ok (.ireturn, 1) := by decide +kernel
theorem d_M_corner_0 : decode b_M_corner 0 = .ok (.aload_n 0, 1) := by decide +kernel
theorem d_M_corner_1 : decode b_M_corner 1 = .ok (.aload_n 0, 1) := by decide +kernel
theorem d_M_corner_2 : decode b_M_corner 2 = .ok (.getfield 86, 3) := by decide +kernel
theorem d_M_corner_5 : decode b_M_corner 5 = .ok (.ifCond .ne 7, 3) := by decide +kernel
theorem d_M_corner_8 : decode b_M_corner 8 = .ok (.iconst 1, 1) := by decide +kernel
theorem d_M_corner_9 : decode b_M_corner 9 = .ok (.goto 22, 3) := by decide +kernel
theorem d_M_corner_12 : decode b_M_corner 12 = .ok (.iload_n 1, 1) := by decide +kernel
theorem d_M_corner_13 : decode b_M_corner 13 = .ok (.iconst 0, 1) := by decide +kernel
theorem d_M_corner_14 : decode b_M_corner 14 = .ok (.aload_n 0, 1) := by decide +kernel
theorem d_M_corner_15 : decode b_M_corner 15 = .ok (.getfield 164, 3) := by decide +kernel
theorem d_M_corner_18 : decode b_M_corner 18 = .ok (.iconst 1, 1) := by decide +kernel
theorem d_M_corner_19 : decode b_M_corner 19 = .ok (.isub, 1) := by decide +kernel
theorem d_M_corner_20 : decode b_M_corner 20 = .ok (.invokestatic 75, 3) := by decide +kernel
theorem d_M_corner_23 : decode b_M_corner 23 = .ok (.ifCond .ne 7, 3) := by decide +kernel
theorem d_M_corner_26 : decode b_M_corner 26 = .ok (.iconst 2, 1) := by decide +kernel
theorem d_M_corner_27 : decode b_M_corner 27 = .ok (.goto 4, 3) := by decide +kernel
theorem d_M_corner_30 : decode b_M_corner 30 = .ok (.iconst 0, 1) := by decide +kernel
theorem d_M_corner_31 : decode b_M_corner 31 = .ok (.invokevirtual 96, 3) := by decide +kernel
theorem d_M_corner_34 : decode b_M_corner 34 = .ok (.ifCond .eq 5, 3) := by decide +kernel
theorem d_M_corner_37 : decode b_M_corner 37 = .ok (.iconst 0, 1) := by decide +kernel
theorem d_M_corner_38 : decode b_M_corner 38 = .ok (.ireturn, 1) := by decide +kernel
theorem d_M_corner_39 : decode b_M_corner 39 = .ok (.iload_n 2, 1) := by decide +kernel
theorem d_M_corner_40 : decode b_M_corner 40 = .ok (.ifCond .ne 12, 3) := by decide +kernel
theorem d_M_corner_43 : decode b_M_corner 43 = .ok (.aload_n 0, 1) := by decide +kernel
theorem d_M_corner_44 : decode b_M_corner 44 = .ok (.getfield 35, 3) := by decide +kernel
theorem d_M_corner_47 : decode b_M_corner 47 = .ok (.iload_n 1, 1) := by decide +kernel
theorem d_M_corner_48 : decode b_M_corner 48 = .ok (.iaload, 1) := by decide +kernel
theorem d_M_corner_49 : decode b_M_corner 49 = .ok (.goto 56, 3) := by decide +kernel
theorem d_M_corner_52 : decode b_M_corner 52 = .ok (.iload_n 2, 1) := by decide +kernel
theorem d_M_corner_53 : decode b_M_corner 53 = .ok (.iconst 1, 1) := by decide +kernel
theorem d_M_corner_54 : decode b_M_corner 54 = .ok (.if_icmp .ne 11, 3) := by decide +kernel
theorem d_M_corner_57 : decode b_M_corner 57 = .ok (.aload_n 0, 1) := by decide +kernel
theorem d_M_corner_58 : decode b_M_corner 58 = .ok (.iload_n 1, 1) := by decide +kernel
theorem d_M_corner_59 : decode b_M_corner 59 = .ok (.invokevirtual 177, 3) := by decide +kernel
theorem d_M_corner_62 : decode b_M_corner 62 = .ok (.goto 43, 3) := by decide +kernel
theorem d_M_corner_65 : decode b_M_corner 65 = .ok (.iload_n 2, 1) := by decide +kernel
theorem d_M_corner_66 : decode b_M_corner 66 = .ok (.iconst 2, 1) := by decide +kernel
theorem d_M_corner_67 : decode b_M_corner 67 = .ok (.if_icmp .ne 11, 3) := by decide +kernel
theorem d_M_corner_70 : decode b_M_corner 70 = .ok (.aload_n 0, 1) := by decide +kernel
theorem d_M_corner_71 : decode b_M_corner 71 = .ok (.iload_n 1, 1) := by decide +kernel
theorem d_M_corner_72 : decode b_M_corner 72 = .ok (.invokevirtual 180, 3) := by decide +kernel
theorem d_M_corner_75 : decode b_M_corner 75 = .ok (.goto 30, 3) := by decide +kernel
theorem d_M_corner_78 : decode b_M_corner 78 = .ok (.iload_n 2, 1) := by decide +kernel
theorem d_M_corner_79 : decode b_M_corner 79 = .ok (.iconst 3, 1) := by decide +kernel
theorem d_M_corner_80 : decode b_M_corner 80 = .ok (.if_icmp .ne 11, 3) := by decide +kernel
theorem d_M_corner_83 : decode b_M_corner 83 = .ok (.aload_n 0, 1) := by decide +kernel
theorem d_M_corner_84 : decode b_M_corner 84 = .ok (.iload_n 1, 1) := by decide +kernel
theorem d_M_corner_85 : decode b_M_corner 85 = .ok (.invokevirtual 186, 3) := by decide +kernel
theorem d_M_corner_88 : decode b_M_corner 88 = .ok (.goto 17, 3) := by decide +kernel
theorem d_M_corner_91 : decode b_M_corner 91 = .ok (.iload_n 2, 1) := by decide +kernel
theorem d_M_corner_92 : decode b_M_corner 92 = .ok (.iconst 4, 1) := by decide +kernel
theorem d_M_corner_93 : decode b_M_corner 93 = .ok (.if_icmp .ne 11, 3) := by decide +kernel
theorem d_M_corner_96 : decode b_M_corner 96 = .ok (.aload_n 0, 1) := by decide +kernel
theorem d_M_corner_97 : decode b_M_corner 97 = .ok (.iload_n 1, 1) := by decide +kernel
theorem d_M_corner_98 : decode b_M_corner 98 = .ok (.invokevirtual 189, 3) := by decide +kernel
theorem d_M_corner_101 : decode b_M_corner 101 = .ok (.goto 4, 3) := by decide +kernel
theorem d_M_corner_104 : decode b_M_corner 104 = .ok (.iconst (-1), 1) := by decide +kernel
theorem d_M_corner_105 : decode b_M_corner 105 = .ok (.ireturn, 1) := by decide +kernel
theorem d_M_set_0 : decode b_M_set 0 = .ok (.iload_n 1, 1) := by decide +kernel
theorem d_M_set_1 : decode b_M_set 1 = .ok (.aload_n 0, 1) := by decide +kernel
theorem d_M_set_2 : decode b_M_set 2 = .ok (.getfield 164, 3) := by decide +kernel
theorem d_M_set_5 : decode b_M_set 5 = .ok (.iadd, 1) := by decide +kernel
theorem d_M_set_6 : decode b_M_set 6 = .ok (.iconst 1, 1) := by decide +kernel
theorem d_M_set_7 : decode b_M_set 7 = .ok (.isub, 1) := by decide +kernel
theorem d_M_set_8 : decode b_M_set 8 = .ok (.istore 4, 2) := by decide +kernel
theorem d_M_set_10 : decode b_M_set 10 = .ok (.iload_n 1, 1) := by decide +kernel
theorem d_M_set_11 : decode b_M_set 11 = .ok (.iload_n 2, 1) := by decide +kernel
theorem d_M_set_12 : decode b_M_set 12 = .ok (.iadd, 1) := by decide +kernel
theorem d_M_set_13 : decode b_M_set 13 = .ok (.iconst 1, 1) := by decide +kernel
theorem d_M_set_14 : decode b_M_set 14 = .ok (.isub, 1) := by decide +kernel
theorem d_M_set_15 : decode b_M_set 15 = .ok (.istore 5, 2) := by decide +kernel
theorem d_M_set_17 : decode b_M_set 17 = .ok (.iload 5, 2) := by decide +kernel
theorem d_M_set_19 : decode b_M_set 19 = .ok (.iconst 1, 1) := by decide +kernel
theorem d_M_set_20 : decode b_M_set 20 = .ok (.iadd, 1) := by decide +kernel
theorem d_M_set_21 : decode b_M_set 21 = .ok (.istore 6, 2) := by decide +kernel
theorem d_M_set_23 : decode b_M_set 23 = .ok (.aload_n 0, 1) := by decide +kernel
theorem d_M_set_24 : decode b_M_set 24 = .ok (.getfield 53, 3) := by decide +kernel
theorem d_M_set_27 : decode b_M_set 27 = .ok (.iconst 0, 1) := by decide +kernel
theorem d_M_set_28 : decode b_M_set 28 = .ok (.bipush 16, 2) := by decide +kernel
theorem d_M_set_30 : decode b_M_set 30 = .ok (.aload_n 0, 1) := by decide +kernel
theorem d_M_set_31 : decode b_M_set 31 = .ok (.iload 4, 2) := by decide +kernel
theorem d_M_set_33 : decode b_M_set 33 = .ok (.invokevirtual 177, 3) := by decide +kernel
theorem d_M_set_36 : decode b_M_set 36 = .ok (.aload_n 0, 1) := by decide +kernel
theorem d_M_set_37 : decode b_M_set 37 = .ok (.iload_n 1, 1) := by decide +kernel
theorem d_M_set_38 : decode b_M_set 38 = .ok (.invokevirtual 177, 3) := by decide +kernel
theorem d_M_set_41 : decode b_M_set 41 = .ok (.iadd, 1) := by decide +kernel
theorem d_M_set_42 : decode b_M_set 42 = .ok (.imul, 1) := by decide +kernel
theorem d_M_set_43 : decode b_M_set 43 = .ok (.iastore, 1) := by decide +kernel
theorem d_M_set_44 : decode b_M_set 44 = .ok (.aload_n 0, 1) := by decide +kernel
theorem d_M_set_45 : decode b_M_set 45 = .ok (.getfield 56, 3) := by decide +kernel
theorem d_M_set_48 : decode b_M_set 48 = .ok (.iconst 0, 1) := by decide +kernel
theorem d_M_set_49 : decode b_M_set 49 = .ok (.bipush 16, 2) := by decide +kernel
theorem d_M_set_51 : decode b_M_set 51 = .ok (.aload_n 0, 1) := by decide +kernel
theorem d_M_set_52 : decode b_M_set 52 = .ok (.iload 4, 2) := by decide +kernel
theorem d_M_set_54 : decode b_M_set 54 = .ok (.invokevirtual 180, 3) := by decide +kernel
theorem d_M_set_57 : decode b_M_set 57 = .ok (.aload_n 0, 1) := by decide +kernel
theorem d_M_set_58 : decode b_M_set 58 = .ok (.iload_n 1, 1) := by decide +kernel
theorem d_M_set_59 : decode b_M_set 59 = .ok (.invokevirtual 180, 3) := by decide +kernel
theorem d_M_set_62 : decode b_M_set 62 = .ok (.iadd, 1) := by decide +kernel
theorem d_M_set_63 : decode b_M_set 63 = .ok (.imul, 1) := by decide +kernel
theorem d_M_set_64 : decode b_M_set 64 = .ok (.iastore, 1) := by decide +kernel
theorem d_M_set_65 : decode b_M_set 65 = .ok (.aload_n 0, 1) := by decide +kernel
theorem d_M_set_66 : decode b_M_set 66 = .ok (.getfield 53, 3) := by decide +kernel
theorem d_M_set_69 : decode b_M_set 69 = .ok (.iconst 3, 1) := by decide +kernel
theorem d_M_set_70 : decode b_M_set 70 = .ok (.bipush 16, 2) := by decide +kernel
theorem d_M_set_72 : decode b_M_set 72 = .ok (.aload_n 0, 1) := by decide +kernel
theorem d_M_set_73 : decode b_M_set 73 = .ok (.iload 5, 2) := by decide +kernel
theorem d_M_set_75 : decode b_M_set 75 = .ok (.invokevirtual 177, 3) := by decide +kernel
theorem d_M_set_78 : decode b_M_set 78 = .ok (.aload_n 0, 1) := by decide +kernel
theorem d_M_set_79 : decode b_M_set 79 = .ok (.iload 6, 2) := by decide +kernel
theorem d_M_set_81 : decode b_M_set 81 = .ok (.invokevirtual 177, 3) := by decide +kernel
theorem d_M_set_84 : decode b_M_set 84 = .ok (.iadd, 1) := by decide +kernel
theorem d_M_set_85 : decode b_M_set 85 = .ok (.imul, 1) := by decide +kernel
theorem d_M_set_86 : decode b_M_set 86 = .ok (.iastore, 1) := by decide +kernel
theorem d_M_set_87 : decode b_M_set 87 = .ok (.aload_n 0, 1) := by decide +kernel
theorem d_M_set_88 : decode b_M_set 88 = .ok (.getfield 56, 3) := by decide +kernel
theorem d_M_set_91 : decode b_M_set 91 = .ok (.iconst 3, 1) := by decide +kernel
theorem d_M_set_92 : decode b_M_set 92 = .ok (.bipush 16, 2) := by decide +kernel
theorem d_M_set_94 : decode b_M_set 94 = .ok (.aload_n 0, 1) := by decide +kernel
theorem d_M_set_95 : decode b_M_set 95 = .ok (.iload 5, 2) := by decide +kernel
theorem d_M_set_97 : decode b_M_set 97 = .ok (.invokevirtual 180, 3) := by decide +kernel
theorem d_M_set_100 : decode b_M_set 100 = .ok (.aload_n 0, 1) := by decide +kernel
theorem d_M_set_101 : decode b_M_set 101 = .ok (.iload 6, 2) := by decide +kernel
theorem d_M_set_103 : decode b_M_set 103 = .ok (.invokevirtual 180, 3) := by decide +kernel
theorem d_M_set_106 : decode b_M_set 106 = .ok (.iadd, 1) := by decide +kernel
theorem d_M_set_107 : decode b_M_set 107 = .ok (.imul, 1) := by decide +kernel
theorem d_M_set_108 : decode b_M_set 108 = .ok (.iastore, 1) := by decide +kernel
theorem d_M_set_109 : decode b_M_set 109 = .ok (.aload_n 0, 1) := by decide +kernel
theorem d_M_set_110 : decode b_M_set 110 = .ok (.getfield 53, 3) := by decide +kernel
theorem d_M_set_113 : decode b_M_set 113 = .ok (.iconst 1, 1) := by decide +kernel
theorem d_M_set_114 : decode b_M_set 114 = .ok (.iload_n 3, 1) := by decide +kernel
theorem d_M_set_115 : decode b_M_set 115 = .ok (.ifCond .ne 14, 3) := by decide +kernel
theorem d_M_set_118 : decode b_M_set 118 = .ok (.bipush 32, 2) := by decide +kernel
theorem d_M_set_120 : decode b_M_set 120 = .ok (.aload_n 0, 1) := by decide +kernel
theorem d_M_set_121 : decode b_M_set 121 = .ok (.iload_n 1, 1) := by decide +kernel
theorem d_M_set_122 : decode b_M_set 122 = .ok (.invokevirtual 177, 3) := by decide +kernel
theorem d_M_set_125 : decode b_M_set 125 = .ok (.imul, 1) := by decide +kernel
theorem d_M_set_126 : decode b_M_set 126 = .ok (.goto 24, 3) := by decide +kernel
theorem d_M_set_129 : decode b_M_set 129 = .ok (.aload_n 0, 1) := by decide +kernel
theorem d_M_set_130 : decode b_M_set 130 = .ok (.getfield 53, 3) := by decide +kernel
theorem d_M_set_133 : decode b_M_set 133 = .ok (.iconst 0, 1) := by decide +kernel
theorem d_M_set_134 : decode b_M_set 134 = .ok (.iaload, 1) := by decide +kernel
theorem d_M_set_135 : decode b_M_set 135 = .ok (.iload_n 3, 1) := by decide +kernel
theorem d_M_set_136 : decode b_M_set 136 = .ok (.aload_n 0, 1) := by decide +kernel
theorem d_M_set_137 : decode b_M_set 137 = .ok (.iload_n 1, 1) := by decide +kernel
theorem d_M_set_138 : decode b_M_set 138 = .ok (.invokevirtual 177, 3) := by decide +kernel
theorem d_M_set_141 : decode b_M_set 141 = .ok (.aload_n 0, 1) := by decide +kernel
theorem d_M_set_142 : decode b_M_set 142 = .ok (.iload 4, 2) := by decide +kernel
theorem d_M_set_144 : decode b_M_set 144 = .ok (.invokevirtual 177, 3) := by decide +kernel
theorem d_M_set_147 : decode b_M_set 147 = .ok (.isub, 1) := by decide +kernel
theorem d_M_set_148 : decode b_M_set 148 = .ok (.imul, 1) := by decide +kernel
theorem d_M_set_149 : decode b_M_set 149 = .ok (.iadd, 1) := by decide +kernel
theorem d_M_set_150 : decode b_M_set 150 = .ok (.iastore, 1) := by decide +kernel
theorem d_M_set_151 : decode b_M_set 151 = .ok (.aload_n 0, 1) := by decide +kernel
theorem d_M_set_152 : decode b_M_set 152 = .ok (.getfield 56, 3) := by decide +kernel
theorem d_M_set_155 : decode b_M_set 155 = .ok (.iconst 1, 1) := by decide +kernel
theorem d_M_set_156 : decode b_M_set 156 = .ok (.iload_n 3, 1) := by decide +kernel
theorem d_M_set_157 : decode b_M_set 157 = .ok (.ifCond .ne 14, 3) := by decide +kernel
theorem d_M_set_160 : decode b_M_set 160 = .ok (.bipush 32, 2) := by decide +kernel
theorem d_M_set_162 : decode b_M_set 162 = .ok (.aload_n 0, 1) := by decide +kernel
theorem d_M_set_163 : decode b_M_set 163 = .ok (.iload_n 1, 1) := by decide +kernel
theorem d_M_set_164 : decode b_M_set 164 = .ok (.invokevirtual 180, 3) := by decide +kernel
theorem d_M_set_167 : decode b_M_set 167 = .ok (.imul, 1) := by decide +kernel
theorem d_M_set_168 : decode b_M_set 168 = .ok (.goto 24, 3) := by decide +kernel
theorem d_M_set_171 : decode b_M_set 171 = .ok (.aload_n 0, 1) := by decide +kernel
theorem d_M_set_172 : decode b_M_set 172 = .ok (.getfield 56, 3) := by decide +kernel
theorem d_M_set_175 : decode b_M_set 175 = .ok (.iconst 0, 1) := by decide +kernel
theorem d_M_set_176 : decode b_M_set 176 = .ok (.iaload, 1) := by decide +kernel
theorem d_M_set_177 : decode b_M_set 177 = .ok (.iload_n 3, 1) := by decide +kernel
theorem d_M_set_178 : decode b_M_set 178 = .ok (.aload_n 0, 1) := by decide +kernel
theorem d_M_set_179 : decode b_M_set 179 = .ok (.iload_n 1, 1) := by decide +kernel
theorem d_M_set_180 : decode b_M_set 180 = .ok (.invokevirtual 180, 3) := by decide +kernel
theorem d_M_set_183 : decode b_M_set 183 = .ok (.aload_n 0, 1) := by decide +kernel
theorem d_M_set_184 : decode b_M_set 184 = .ok (.iload 4, 2) := by decide +kernel
theorem d_M_set_186 : decode b_M_set 186 = .ok (.invokevirtual 180, 3) := by decide +kernel
theorem d_M_set_189 : decode b_M_set 189 = .ok (.isub, 1) := by decide +kernel
theorem d_M_set_190 : decode b_M_set 190 = .ok (.imul, 1) := by decide +kernel
theorem d_M_set_191 : decode b_M_set 191 = .ok (.iadd, 1) := by decide +kernel
theorem d_M_set_192 : decode b_M_set 192 = .ok (.iastore, 1) := by decide +kernel
theorem d_M_set_193 : decode b_M_set 193 = .ok (.aload_n 0, 1) := by decide +kernel
theorem d_M_set_194 : decode b_M_set 194 = .ok (.getfield 53, 3) := by decide +kernel
theorem d_M_set_197 : decode b_M_set 197 = .ok (.iconst 2, 1) := by decide +kernel
theorem d_M_set_198 : decode b_M_set 198 = .ok (.iload_n 3, 1) := by decide +kernel
theorem d_M_set_199 : decode b_M_set 199 = .ok (.ifCond .ne 14, 3) := by decide +kernel
theorem d_M_set_202 : decode b_M_set 202 = .ok (.bipush 32, 2) := by decide +kernel
theorem d_M_set_204 : decode b_M_set 204 = .ok (.aload_n 0, 1) := by decide +kernel
theorem d_M_set_205 : decode b_M_set 205 = .ok (.iload_n 1, 1) := by decide +kernel
theorem d_M_set_206 : decode b_M_set 206 = .ok (.invokevirtual 177, 3) := by decide +kernel
theorem d_M_set_209 : decode b_M_set 209 = .ok (.imul, 1) := by decide +kernel
theorem d_M_set_210 : decode b_M_set 210 = .ok (.goto 25, 3) := by decide +kernel
theorem d_M_set_213 : decode b_M_set 213 = .ok (.aload_n 0, 1) := by decide +kernel
theorem d_M_set_214 : decode b_M_set 214 = .ok (.getfield 53, 3) := by decide +kernel
theorem d_M_set_217 : decode b_M_set 217 = .ok (.iconst 3, 1) := by decide +kernel
theorem d_M_set_218 : decode b_M_set 218 = .ok (.iaload, 1) := by decide +kernel
theorem d_M_set_219 : decode b_M_set 219 = .ok (.iload_n 3, 1) := by decide +kernel
theorem d_M_set_220 : decode b_M_set 220 = .ok (.aload_n 0, 1) := by decide +kernel
theorem d_M_set_221 : decode b_M_set 221 = .ok (.iload 6, 2) := by decide +kernel
theorem d_M_set_223 : decode b_M_set 223 = .ok (.invokevirtual 177, 3) := by decide +kernel
theorem d_M_set_226 : decode b_M_set 226 = .ok (.aload_n 0, 1) := by decide +kernel
theorem d_M_set_227 : decode b_M_set 227 = .ok (.iload 5, 2) := by decide +kernel
theorem d_M_set_229 : decode b_M_set 229 = .ok (.invokevirtual 177, 3) := by decide +kernel
theorem d_M_set_232 : decode b_M_set 232 = .ok (.isub, 1) := by decide +kernel
theorem d_M_set_233 : decode b_M_set 233 = .ok (.imul, 1) := by decide +kernel
theorem d_M_set_234 : decode b_M_set 234 = .ok (.isub, 1) := by decide +kernel
theorem d_M_set_235 : decode b_M_set 235 = .ok (.iastore, 1) := by decide +kernel
theorem d_M_set_236 : decode b_M_set 236 = .ok (.aload_n 0, 1) := by decide +kernel
theorem d_M_set_237 : decode b_M_set 237 = .ok (.getfield 56, 3) := by decide +kernel
theorem d_M_set_240 : decode b_M_set 240 = .ok (.iconst 2, 1) := by decide +kernel
theorem d_M_set_241 : decode b_M_set 241 = .ok (.iload_n 3, 1) := by decide +kernel
theorem d_M_set_242 : decode b_M_set 242 = .ok (.ifCond .ne 14, 3) := by decide +kernel
theorem d_M_set_245 : decode b_M_set 245 = .ok (.bipush 32, 2) := by decide +kernel
theorem d_M_set_247 : decode b_M_set 247 = .ok (.aload_n 0, 1) := by decide +kernel
theorem d_M_set_248 : decode b_M_set 248 = .ok (.iload_n 1, 1) := by decide +kernel
theorem d_M_set_249 : decode b_M_set 249 = .ok (.invokevirtual 180, 3) := by decide +kernel
theorem d_M_set_252 : decode b_M_set 252 = .ok (.imul, 1) := by decide +kernel
theorem d_M_set_253 : decode b_M_set 253 = .ok (.goto 25, 3) := by decide +kernel
theorem d_M_set_256 : decode b_M_set 256 = .ok (.aload_n 0, 1) := by decide +kernel
theorem d_M_set_257 : decode b_M_set 257 = .ok (.getfield 56, 3) := by decide +kernel
theorem d_M_set_260 : decode b_M_set 260 = .ok (.iconst 3, 1) := by decide +kernel
theorem d_M_set_261 : decode b_M_set 261 = .ok (.iaload, 1) := by decide +kernel
theorem d_M_set_262 : decode b_M_set 262 = .ok (.iload_n 3, 1) := by decide +kernel
theorem d_M_set_263 : decode b_M_set 263 = .ok (.aload_n 0, 1) := by decide +kernel
theorem d_M_set_264 : decode b_M_set 264 = .ok (.iload 6, 2) := by decide +kernel
theorem d_M_set_266 : decode b_M_set 266 = .ok (.invokevirtual 180, 3) := by decide +kernel
theorem d_M_set_269 : decode b_M_set 269 = .ok (.aload_n 0, 1) := by decide +kernel
theorem d_M_set_270 : decode b_M_set 270 = .ok (.iload 5, 2) := by decide +kernel
theorem d_M_set_272 : decode b_M_set 272 = .ok (.invokevirtual 180, 3) := by decide +kernel
theorem d_M_set_275 : decode b_M_set 275 = .ok (.isub, 1) := by decide +kernel
theorem d_M_set_276 : decode b_M_set 276 = .ok (.imul, 1) := by decide +kernel
theorem d_M_set_277 : decode b_M_set 277 = .ok (.isub, 1) := by decide +kernel
theorem d_M_set_278 : decode b_M_set 278 = .ok (.iastore, 1) := by decide +kernel
theorem d_M_set_279 : decode b_M_set 279 = .ok (.return_, 1) := by decide +kernel
theorem d_M_along_0 : decode b_M_along 0 = .ok (.bipush 8, 2) := by decide +kernel
theorem d_M_along_2 : decode b_M_along 2 = .ok (.iload_n 1, 1) := by decide +kernel
theorem d_M_along_3 : decode b_M_along 3 = .ok (.isub, 1) := by decide +kernel
theorem d_M_along_4 : decode b_M_along 4 = .ok (.istore_n 3, 1) := by decide +kernel
theorem d_M_along_5 : decode b_M_along 5 = .ok (.iload_n 2, 1) := by decide +kernel
theorem d_M_along_6 : decode b_M_along 6 = .ok (.ifCond .eq 46, 3) := by decide +kernel
theorem d_M_along_9 : decode b_M_along 9 = .ok (.iload_n 1, 1) := by decide +kernel
theorem d_M_along_10 : decode b_M_along 10 = .ok (.iconst 4, 1) := by decide +kernel
theorem d_M_along_11 : decode b_M_along 11 = .ok (.if_icmp .gt 23, 3) := by decide +kernel
theorem d_M_along_14 : decode b_M_along 14 = .ok (.sipush 128, 3) := by decide +kernel
theorem d_M_along_17 : decode b_M_along 17 = .ok (.iconst 4, 1) := by decide +kernel
theorem d_M_along_18 : decode b_M_along 18 = .ok (.iload_n 1, 1) := by decide +kernel
theorem d_M_along_19 : decode b_M_along 19 = .ok (.isub, 1) := by decide +kernel
theorem d_M_along_20 : decode b_M_along 20 = .ok (.aload_n 0, 1) := by decide +kernel
theorem d_M_along_21 : decode b_M_along 21 = .ok (.iconst 0, 1) := by decide +kernel
theorem d_M_along_22 : decode b_M_along 22 = .ok (.iaload, 1) := by decide +kernel
theorem d_M_along_23 : decode b_M_along 23 = .ok (.imul, 1) := by decide +kernel
theorem d_M_along_24 : decode b_M_along 24 = .ok (.iload_n 1, 1) := by decide +kernel
theorem d_M_along_25 : decode b_M_along 25 = .ok (.aload_n 0, 1) := by decide +kernel
theorem d_M_along_26 : decode b_M_along 26 = .ok (.iconst 1, 1) := by decide +kernel
theorem d_M_along_27 : decode b_M_along 27 = .ok (.iaload, 1) := by decide +kernel
theorem d_M_along_28 : decode b_M_along 28 = .ok (.imul, 1) := by decide +kernel
theorem d_M_along_29 : decode b_M_along 29 = .ok (.iadd, 1) := by decide +kernel
theorem d_M_along_30 : decode b_M_along 30 = .ok (.imul, 1) := by decide +kernel
theorem d_M_along_31 : decode b_M_along 31 = .ok (.goto 20, 3) := by decide +kernel
theorem d_M_along_34 : decode b_M_along 34 = .ok (.sipush 128, 3) := by decide +kernel
theorem d_M_along_37 : decode b_M_along 37 = .ok (.iload_n 3, 1) := by decide +kernel
theorem d_M_along_38 : decode b_M_along 38 = .ok (.aload_n 0, 1) := by decide +kernel
theorem d_M_along_39 : decode b_M_along 39 = .ok (.iconst 1, 1) := by decide +kernel
theorem d_M_along_40 : decode b_M_along 40 = .ok (.iaload, 1) := by decide +kernel
theorem d_M_along_41 : decode b_M_along 41 = .ok (.imul, 1) := by decide +kernel
theorem d_M_along_42 : decode b_M_along 42 = .ok (.iload_n 1, 1) := by decide +kernel
theorem d_M_along_43 : decode b_M_along 43 = .ok (.iconst 4, 1) := by decide +kernel
theorem d_M_along_44 : decode b_M_along 44 = .ok (.isub, 1) := by decide +kernel
theorem d_M_along_45 : decode b_M_along 45 = .ok (.aload_n 0, 1) := by decide +kernel
theorem d_M_along_46 : decode b_M_along 46 = .ok (.iconst 3, 1) := by decide +kernel
theorem d_M_along_47 : decode b_M_along 47 = .ok (.iaload, 1) := by decide +kernel
theorem d_M_along_48 : decode b_M_along 48 = .ok (.imul, 1) := by decide +kernel
theorem d_M_along_49 : decode b_M_along 49 = .ok (.iadd, 1) := by decide +kernel
theorem d_M_along_50 : decode b_M_along 50 = .ok (.imul, 1) := by decide +kernel
theorem d_M_along_51 : decode b_M_along 51 = .ok (.ireturn, 1) := by decide +kernel
theorem d_M_along_52 : decode b_M_along 52 = .ok (.iload_n 3, 1) := by decide +kernel
theorem d_M_along_53 : decode b_M_along 53 = .ok (.iload_n 3, 1) := by decide +kernel
theorem d_M_along_54 : decode b_M_along 54 = .ok (.imul, 1) := by decide +kernel
theorem d_M_along_55 : decode b_M_along 55 = .ok (.iload_n 3, 1) := by decide +kernel
theorem d_M_along_56 : decode b_M_along 56 = .ok (.imul, 1) := by decide +kernel
theorem d_M_along_57 : decode b_M_along 57 = .ok (.aload_n 0, 1) := by decide +kernel
theorem d_M_along_58 : decode b_M_along 58 = .ok (.iconst 0, 1) := by decide +kernel
theorem d_M_along_59 : decode b_M_along 59 = .ok (.iaload, 1) := by decide +kernel
theorem d_M_along_60 : decode b_M_along 60 = .ok (.imul, 1) := by decide +kernel
theorem d_M_along_61 : decode b_M_along 61 = .ok (.iconst 3, 1) := by decide +kernel
theorem d_M_along_62 : decode b_M_along 62 = .ok (.iload_n 3, 1) := by decide +kernel
theorem d_M_along_63 : decode b_M_along 63 = .ok (.imul, 1) := by decide +kernel
theorem d_M_along_64 : decode b_M_along 64 = .ok (.iload_n 3, 1) := by decide +kernel
theorem d_M_along_65 : decode b_M_along 65 = .ok (.imul, 1) := by decide +kernel
theorem d_M_along_66 : decode b_M_along 66 = .ok (.iload_n 1, 1) := by decide +kernel
theorem d_M_along_67 : decode b_M_along 67 = .ok (.imul, 1) := by decide +kernel
theorem d_M_along_68 : decode b_M_along 68 = .ok (.aload_n 0, 1) := by decide +kernel
theorem d_M_along_69 : decode b_M_along 69 = .ok (.iconst 1, 1) := by decide +kernel
theorem d_M_along_70 : decode b_M_along 70 = .ok (.iaload, 1) := by decide +kernel
theorem d_M_along_71 : decode b_M_along 71 = .ok (.imul, 1) := by decide +kernel
theorem d_M_along_72 : decode b_M_along 72 = .ok (.iadd, 1) := by decide +kernel
theorem d_M_along_73 : decode b_M_along 73 = .ok (.iconst 3, 1) := by decide +kernel
theorem d_M_along_74 : decode b_M_along 74 = .ok (.iload_n 3, 1) := by decide +kernel
theorem d_M_along_75 : decode b_M_along 75 = .ok (.imul, 1) := by decide +kernel
theorem d_M_along_76 : decode b_M_along 76 = .ok (.iload_n 1, 1) := by decide +kernel
theorem d_M_along_77 : decode b_M_along 77 = .ok (.imul, 1) := by decide +kernel
theorem d_M_along_78 : decode b_M_along 78 = .ok (.iload_n 1, 1) := by decide +kernel
theorem d_M_along_79 : decode b_M_along 79 = .ok (.imul, 1) := by decide +kernel
theorem d_M_along_80 : decode b_M_along 80 = .ok (.aload_n 0, 1) := by decide +kernel
theorem d_M_along_81 : decode b_M_along 81 = .ok (.iconst 2, 1) := by decide +kernel
theorem d_M_along_82 : decode b_M_along 82 = .ok (.iaload, 1) := by decide +kernel
theorem d_M_along_83 : decode b_M_along 83 = .ok (.imul, 1) := by decide +kernel
theorem d_M_along_84 : decode b_M_along 84 = .ok (.iadd, 1) := by decide +kernel
theorem d_M_along_85 : decode b_M_along 85 = .ok (.iload_n 1, 1) := by decide +kernel
theorem d_M_along_86 : decode b_M_along 86 = .ok (.iload_n 1, 1) := by decide +kernel
theorem d_M_along_87 : decode b_M_along 87 = .ok (.imul, 1) := by decide +kernel
theorem d_M_along_88 : decode b_M_along 88 = .ok (.iload_n 1, 1) := by decide +kernel
theorem d_M_along_89 : decode b_M_along 89 = .ok (.imul, 1) := by decide +kernel
theorem d_M_along_90 : decode b_M_along 90 = .ok (.aload_n 0, 1) := by decide +kernel
theorem d_M_along_91 : decode b_M_along 91 = .ok (.iconst 3, 1) := by decide +kernel
theorem d_M_along_92 : decode b_M_along 92 = .ok (.iaload, 1) := by decide +kernel
theorem d_M_along_93 : decode b_M_along 93 = .ok (.imul, 1) := by decide +kernel
theorem d_M_along_94 : decode b_M_along 94 = .ok (.iadd, 1) := by decide +kernel
theorem d_M_along_95 : decode b_M_along 95 = .ok (.ireturn, 1) := by decide +kernel
theorem d_M_isNearLine_0 : decode b_M_isNearLine 0 = .ok (.ldc2_w 192, 3) := by decide +kernel
theorem d_M_isNearLine_3 : decode b_M_isNearLine 3 = .ok (.aload_n 0, 1) := by decide +kernel
theorem d_M_isNearLine_4 : decode b_M_isNearLine 4 = .ok (.iload 5, 2) := by decide +kernel
theorem d_M_isNearLine_6 : decode b_M_isNearLine 6 = .ok (.invokevirtual 177, 3) := by decide +kernel
theorem d_M_isNearLine_9 : decode b_M_isNearLine 9 = .ok (.i2l, 1) := by decide +kernel
theorem d_M_isNearLine_10 : decode b_M_isNearLine 10 = .ok (.lmul, 1) := by decide +kernel
theorem d_M_isNearLine_11 : decode b_M_isNearLine 11 = .ok (.lstore 7, 2) := by decide +kernel
theorem d_M_isNearLine_13 : decode b_M_isNearLine 13 = .ok (.ldc2_w 192, 3) := by decide +kernel
theorem d_M_isNearLine_16 : decode b_M_isNearLine 16 = .ok (.aload_n 0, 1) := by decide +kernel
theorem d_M_isNearLine_17 : decode b_M_isNearLine 17 = .ok (.iload 5, 2) := by decide +kernel
theorem d_M_isNearLine_19 : decode b_M_isNearLine 19 = .ok (.invokevirtual 180, 3) := by decide +kernel
theorem d_M_isNearLine_22 : decode b_M_isNearLine 22 = .ok (.i2l, 1) := by decide +kernel
theorem d_M_isNearLine_23 : decode b_M_isNearLine 23 = .ok (.lmul, 1) := by decide +kernel
theorem d_M_isNearLine_24 : decode b_M_isNearLine 24 = .ok (.lstore 9, 2) := by decide +kernel
theorem d_M_isNearLine_26 : decode b_M_isNearLine 26 = .ok (.aload_n 0, 1) := by decide +kernel
theorem d_M_isNearLine_27 : decode b_M_isNearLine 27 = .ok (.iload 5, 2) := by decide +kernel
theorem d_M_isNearLine_29 : decode b_M_isNearLine 29 = .ok (.iconst 1, 1) := by decide +kernel
theorem d_M_isNearLine_30 : decode b_M_isNearLine 30 = .ok (.iadd, 1) := by decide +kernel
theorem d_M_isNearLine_31 : decode b_M_isNearLine 31 = .ok (.invokevirtual 177, 3) := by decide +kernel
theorem d_M_isNearLine_34 : decode b_M_isNearLine 34 = .ok (.aload_n 0, 1) := by decide +kernel
theorem d_M_isNearLine_35 : decode b_M_isNearLine 35 = .ok (.iload 5, 2) := by decide +kernel
theorem d_M_isNearLine_37 : decode b_M_isNearLine 37 = .ok (.invokevirtual 177, 3) := by decide +kernel
theorem d_M_isNearLine_40 : decode b_M_isNearLine 40 = .ok (.isub, 1) := by decide +kernel
theorem d_M_isNearLine_41 : decode b_M_isNearLine 41 = .ok (.i2l, 1) := by decide +kernel
theorem d_M_isNearLine_42 : decode b_M_isNearLine 42 = .ok (.lstore 11, 2) := by decide +kernel
theorem d_M_isNearLine_44 : decode b_M_isNearLine 44 = .ok (.aload_n 0, 1) := by decide +kernel
theorem d_M_isNearLine_45 : decode b_M_isNearLine 45 = .ok (.iload 5, 2) := by decide +kernel
theorem d_M_isNearLine_47 : decode b_M_isNearLine 47 = .ok (.iconst 1, 1) := by decide +kernel
theorem d_M_isNearLine_48 : decode b_M_isNearLine 48 = .ok (.iadd, 1) := by decide +kernel
theorem d_M_isNearLine_49 : decode b_M_isNearLine 49 = .ok (.invokevirtual 180, 3) := by decide +kernel
theorem d_M_isNearLine_52 : decode b_M_isNearLine 52 = .ok (.aload_n 0, 1) := by decide +kernel
theorem d_M_isNearLine_53 : decode b_M_isNearLine 53 = .ok (.iload 5, 2) := by decide +kernel
theorem d_M_isNearLine_55 : decode b_M_isNearLine 55 = .ok (.invokevirtual 180, 3) := by decide +kernel
theorem d_M_isNearLine_58 : decode b_M_isNearLine 58 = .ok (.isub, 1) := by decide +kernel
theorem d_M_isNearLine_59 : decode b_M_isNearLine 59 = .ok (.i2l, 1) := by decide +kernel
theorem d_M_isNearLine_60 : decode b_M_isNearLine 60 = .ok (.lstore 13, 2) := by decide +kernel
theorem d_M_isNearLine_62 : decode b_M_isNearLine 62 = .ok (.lload_n 1, 1) := by decide +kernel
theorem d_M_isNearLine_63 : decode b_M_isNearLine 63 = .ok (.lload 7, 2) := by decide +kernel
theorem d_M_isNearLine_65 : decode b_M_isNearLine 65 = .ok (.lsub, 1) := by decide +kernel
theorem d_M_isNearLine_66 : decode b_M_isNearLine 66 = .ok (.lstore 15, 2) := by decide +kernel
theorem d_M_isNearLine_68 : decode b_M_isNearLine 68 = .ok (.lload_n 3, 1) := by decide +kernel
theorem d_M_isNearLine_69 : decode b_M_isNearLine 69 = .ok (.lload 9, 2) := by decide +kernel
theorem d_M_isNearLine_71 : decode b_M_isNearLine 71 = .ok (.lsub, 1) := by decide +kernel
theorem d_M_isNearLine_72 : decode b_M_isNearLine 72 = .ok (.lstore 17, 2) := by decide +kernel
theorem d_M_isNearLine_74 : decode b_M_isNearLine 74 = .ok (.lload 11, 2) := by decide +kernel
theorem d_M_isNearLine_76 : decode b_M_isNearLine 76 = .ok (.lload 11, 2) := by decide +kernel
theorem d_M_isNearLine_78 : decode b_M_isNearLine 78 = .ok (.lmul, 1) := by decide +kernel
theorem d_M_isNearLine_79 : decode b_M_isNearLine 79 = .ok (.lload 13, 2) := by decide +kernel
theorem d_M_isNearLine_81 : decode b_M_isNearLine 81 = .ok (.lload 13, 2) := by decide +kernel
theorem d_M_isNearLine_83 : decode b_M_isNearLine 83 = .ok (.lmul, 1) := by decide +kernel
theorem d_M_isNearLine_84 : decode b_M_isNearLine 84 = .ok (.ladd, 1) := by decide +kernel
theorem d_M_isNearLine_85 : decode b_M_isNearLine 85 = .ok (.lstore 19, 2) := by decide +kernel
theorem d_M_isNearLine_87 : decode b_M_isNearLine 87 = .ok (.lload 15, 2) := by decide +kernel
theorem d_M_isNearLine_89 : decode b_M_isNearLine 89 = .ok (.lload 11, 2) := by decide +kernel
theorem d_M_isNearLine_91 : decode b_M_isNearLine 91 = .ok (.lmul, 1) := by decide +kernel
theorem d_M_isNearLine_92 : decode b_M_isNearLine 92 = .ok (.lload 17, 2) := by decide +kernel
theorem d_M_isNearLine_94 : decode b_M_isNearLine 94 = .ok (.lload 13, 2) := by decide +kernel
theorem d_M_isNearLine_96 : decode b_M_isNearLine 96 = .ok (.lmul, 1) := by decide +kernel
theorem d_M_isNearLine_97 : decode b_M_isNearLine 97 = .ok (.ladd, 1) := by decide +kernel
theorem d_M_isNearLine_98 : decode b_M_isNearLine 98 = .ok (.lstore 21, 2) := by decide +kernel
theorem d_M_isNearLine_100 : decode b_M_isNearLine 100 = .ok (.ldc2_w 194, 3) := by decide +kernel
theorem d_M_isNearLine_103 : decode b_M_isNearLine 103 = .ok (.iload 6, 2) := by decide +kernel
theorem d_M_isNearLine_105 : decode b_M_isNearLine 105 = .ok (.i2l, 1) := by decide +kernel
theorem d_M_isNearLine_106 : decode b_M_isNearLine 106 = .ok (.lmul, 1) := by decide +kernel
theorem d_M_isNearLine_107 : decode b_M_isNearLine 107 = .ok (.lstore 23, 2) := by decide +kernel
theorem d_M_isNearLine_109 : decode b_M_isNearLine 109 = .ok (.lload 21, 2) := by decide +kernel
theorem d_M_isNearLine_111 : decode b_M_isNearLine 111 = .ok (.lconst 0, 1) := by decide +kernel
theorem d_M_isNearLine_112 : decode b_M_isNearLine 112 = .ok (.lcmp, 1) := by decide +kernel
theorem d_M_isNearLine_113 : decode b_M_isNearLine 113 = .ok (.ifCond .gt 29, 3) := by decide +kernel
theorem d_M_isNearLine_116 : decode b_M_isNearLine 116 = .ok (.lload 15, 2) := by decide +kernel
theorem d_M_isNearLine_118 : decode b_M_isNearLine 118 = .ok (.lload 15, 2) := by decide +kernel
theorem d_M_isNearLine_120 : decode b_M_isNearLine 120 = .ok (.lmul, 1) := by decide +kernel
theorem d_M_isNearLine_121 : decode b_M_isNearLine 121 = .ok (.lload 17, 2) := by decide +kernel
theorem d_M_isNearLine_123 : decode b_M_isNearLine 123 = .ok (.lload 17, 2) := by decide +kernel
theorem d_M_isNearLine_125 : decode b_M_isNearLine 125 = .ok (.lmul, 1) := by decide +kernel
theorem d_M_isNearLine_126 : decode b_M_isNearLine 126 = .ok (.ladd, 1) := by decide +kernel
theorem d_M_isNearLine_127 : decode b_M_isNearLine 127 = .ok (.lload 23, 2) := by decide +kernel
theorem d_M_isNearLine_129 : decode b_M_isNearLine 129 = .ok (.lload 23, 2) := by decide +kernel
theorem d_M_isNearLine_131 : decode b_M_isNearLine 131 = .ok (.lmul, 1) := by decide +kernel
theorem d_M_isNearLine_132 : decode b_M_isNearLine 132 = .ok (.lcmp, 1) := by decide +kernel
theorem d_M_isNearLine_133 : decode b_M_isNearLine 133 = .ok (.ifCond .gt 7, 3) := by decide +kernel
theorem d_M_isNearLine_136 : decode b_M_isNearLine 136 = .ok (.iconst 1, 1) := by decide +kernel
theorem d_M_isNearLine_137 : decode b_M_isNearLine 137 = .ok (.goto 4, 3) := by decide +kernel
theorem d_M_isNearLine_140 : decode b_M_isNearLine 140 = .ok (.iconst 0, 1) := by decide +kernel
theorem d_M_isNearLine_141 : decode b_M_isNearLine 141 = .ok (.ireturn, 1) := by decide +kernel
theorem d_M_isNearLine_142 : decode b_M_isNearLine 142 = .ok (.lload 21, 2) := by decide +kernel
theorem d_M_isNearLine_144 : decode b_M_isNearLine 144 = .ok (.lload 19, 2) := by decide +kernel
theorem d_M_isNearLine_146 : decode b_M_isNearLine 146 = .ok (.ldc2_w 192, 3) := by decide +kernel
theorem d_M_isNearLine_149 : decode b_M_isNearLine 149 = .ok (.lmul, 1) := by decide +kernel
theorem d_M_isNearLine_150 : decode b_M_isNearLine 150 = .ok (.lcmp, 1) := by decide +kernel
theorem d_M_isNearLine_151 : decode b_M_isNearLine 151 = .ok (.ifCond .lt 51, 3) := by decide +kernel
theorem d_M_isNearLine_154 : decode b_M_isNearLine 154 = .ok (.lload 15, 2) := by decide +kernel
theorem d_M_isNearLine_156 : decode b_M_isNearLine 156 = .ok (.ldc2_w 192, 3) := by decide +kernel
theorem d_M_isNearLine_159 : decode b_M_isNearLine 159 = .ok (.lload 11, 2) := by decide +kernel
theorem d_M_isNearLine_161 : decode b_M_isNearLine 161 = .ok (.lmul, 1) := by decide +kernel
theorem d_M_isNearLine_162 : decode b_M_isNearLine 162 = .ok (.lsub, 1) := by decide +kernel
theorem d_M_isNearLine_163 : decode b_M_isNearLine 163 = .ok (.lstore 25, 2) := by decide +kernel
theorem d_M_isNearLine_165 : decode b_M_isNearLine 165 = .ok (.lload 17, 2) := by decide +kernel
theorem d_M_isNearLine_167 : decode b_M_isNearLine 167 = .ok (.ldc2_w 192, 3) := by decide +kernel
theorem d_M_isNearLine_170 : decode b_M_isNearLine 170 = .ok (.lload 13, 2) := by decide +kernel
theorem d_M_isNearLine_172 : decode b_M_isNearLine 172 = .ok (.lmul, 1) := by decide +kernel
theorem d_M_isNearLine_173 : decode b_M_isNearLine 173 = .ok (.lsub, 1) := by decide +kernel
theorem d_M_isNearLine_174 : decode b_M_isNearLine 174 = .ok (.lstore 27, 2) := by decide +kernel
theorem d_M_isNearLine_176 : decode b_M_isNearLine 176 = .ok (.lload 25, 2) := by decide +kernel
theorem d_M_isNearLine_178 : decode b_M_isNearLine 178 = .ok (.lload 25, 2) := by decide +kernel
theorem d_M_isNearLine_180 : decode b_M_isNearLine 180 = .ok (.lmul, 1) := by decide +kernel
theorem d_M_isNearLine_181 : decode b_M_isNearLine 181 = .ok (.lload 27, 2) := by decide +kernel
theorem d_M_isNearLine_183 : decode b_M_isNearLine 183 = .ok (.lload 27, 2) := by decide +kernel
theorem d_M_isNearLine_185 : decode b_M_isNearLine 185 = .ok (.lmul, 1) := by decide +kernel
theorem d_M_isNearLine_186 : decode b_M_isNearLine 186 = .ok (.ladd, 1) := by decide +kernel
theorem d_M_isNearLine_187 : decode b_M_isNearLine 187 = .ok (.lload 23, 2) := by decide +kernel
theorem d_M_isNearLine_189 : decode b_M_isNearLine 189 = .ok (.lload 23, 2) := by decide +kernel
theorem d_M_isNearLine_191 : decode b_M_isNearLine 191 = .ok (.lmul, 1) := by decide +kernel
theorem d_M_isNearLine_192 : decode b_M_isNearLine 192 = .ok (.lcmp, 1) := by decide +kernel
theorem d_M_isNearLine_193 : decode b_M_isNearLine 193 = .ok (.ifCond .gt 7, 3) := by decide +kernel
theorem d_M_isNearLine_196 : decode b_M_isNearLine 196 = .ok (.iconst 1, 1) := by decide +kernel
theorem d_M_isNearLine_197 : decode b_M_isNearLine 197 = .ok (.goto 4, 3) := by decide +kernel
theorem d_M_isNearLine_200 : decode b_M_isNearLine 200 = .ok (.iconst 0, 1) := by decide +kernel
theorem d_M_isNearLine_201 : decode b_M_isNearLine 201 = .ok (.ireturn, 1) := by decide +kernel
theorem d_M_isNearLine_202 : decode b_M_isNearLine 202 = .ok (.lload 15, 2) := by decide +kernel
theorem d_M_isNearLine_204 : decode b_M_isNearLine 204 = .ok (.lload 13, 2) := by decide +kernel
theorem d_M_isNearLine_206 : decode b_M_isNearLine 206 = .ok (.lmul, 1) := by decide +kernel
theorem d_M_isNearLine_207 : decode b_M_isNearLine 207 = .ok (.lload 17, 2) := by decide +kernel
theorem d_M_isNearLine_209 : decode b_M_isNearLine 209 = .ok (.lload 11, 2) := by decide +kernel
theorem d_M_isNearLine_211 : decode b_M_isNearLine 211 = .ok (.lmul, 1) := by decide +kernel
theorem d_M_isNearLine_212 : decode b_M_isNearLine 212 = .ok (.lsub, 1) := by decide +kernel
theorem d_M_isNearLine_213 : decode b_M_isNearLine 213 = .ok (.lstore 25, 2) := by decide +kernel
theorem d_M_isNearLine_215 : decode b_M_isNearLine 215 = .ok (.lload 25, 2) := by decide +kernel
theorem d_M_isNearLine_217 : decode b_M_isNearLine 217 = .ok (.lload 25, 2) := by decide +kernel
theorem d_M_isNearLine_219 : decode b_M_isNearLine 219 = .ok (.lmul, 1) := by decide +kernel
theorem d_M_isNearLine_220 : decode b_M_isNearLine 220 = .ok (.lload 23, 2) := by decide +kernel
theorem d_M_isNearLine_222 : decode b_M_isNearLine 222 = .ok (.lload 23, 2) := by decide +kernel
theorem d_M_isNearLine_224 : decode b_M_isNearLine 224 = .ok (.lmul, 1) := by decide +kernel
theorem d_M_isNearLine_225 : decode b_M_isNearLine 225 = .ok (.lload 19, 2) := by decide +kernel
theorem d_M_isNearLine_227 : decode b_M_isNearLine 227 = .ok (.lmul, 1) := by decide +kernel
theorem d_M_isNearLine_228 : decode b_M_isNearLine 228 = .ok (.lcmp, 1) := by decide +kernel
theorem d_M_isNearLine_229 : decode b_M_isNearLine 229 = .ok (.ifCond .gt 7, 3) := by decide +kernel
theorem d_M_isNearLine_232 : decode b_M_isNearLine 232 = .ok (.iconst 1, 1) := by decide +kernel
theorem d_M_isNearLine_233 : decode b_M_isNearLine 233 = .ok (.goto 4, 3) := by decide +kernel
theorem d_M_isNearLine_236 : decode b_M_isNearLine 236 = .ok (.iconst 0, 1) := by decide +kernel
theorem d_M_isNearLine_237 : decode b_M_isNearLine 237 = .ok (.ireturn, 1) := by decide +kernel
theorem d_M_isNear_0 : decode b_M_isNear 0 = .ok (.aload_n 0, 1) := by decide +kernel
theorem d_M_isNear_1 : decode b_M_isNear 1 = .ok (.getfield 53, 3) := by decide +kernel
theorem d_M_isNear_4 : decode b_M_isNear 4 = .ok (.iload_n 3, 1) := by decide +kernel
theorem d_M_isNear_5 : decode b_M_isNear 5 = .ok (.iload 4, 2) := by decide +kernel
theorem d_M_isNear_7 : decode b_M_isNear 7 = .ok (.invokestatic 196, 3) := by decide +kernel
theorem d_M_isNear_10 : decode b_M_isNear 10 = .ok (.i2l, 1) := by decide +kernel
theorem d_M_isNear_11 : decode b_M_isNear 11 = .ok (.lstore 6, 2) := by decide +kernel
theorem d_M_isNear_13 : decode b_M_isNear 13 = .ok (.aload_n 0, 1) := by decide +kernel
theorem d_M_isNear_14 : decode b_M_isNear 14 = .ok (.getfield 56, 3) := by decide +kernel
theorem d_M_isNear_17 : decode b_M_isNear 17 = .ok (.iload_n 3, 1) := by decide +kernel
theorem d_M_isNear_18 : decode b_M_isNear 18 = .ok (.iload 4, 2) := by decide +kernel
theorem d_M_isNear_20 : decode b_M_isNear 20 = .ok (.invokestatic 196, 3) := by decide +kernel
theorem d_M_isNear_23 : decode b_M_isNear 23 = .ok (.i2l, 1) := by decide +kernel
theorem d_M_isNear_24 : decode b_M_isNear 24 = .ok (.lstore 8, 2) := by decide +kernel
theorem d_M_isNear_26 : decode b_M_isNear 26 = .ok (.iconst 0, 1) := by decide +kernel
theorem d_M_isNear_27 : decode b_M_isNear 27 = .ok (.istore 10, 2) := by decide +kernel
theorem d_M_isNear_29 : decode b_M_isNear 29 = .ok (.iconst (-1), 1) := by decide +kernel
theorem d_M_isNear_30 : decode b_M_isNear 30 = .ok (.istore 11, 2) := by decide +kernel
theorem d_M_isNear_32 : decode b_M_isNear 32 = .ok (.iload 11, 2) := by decide +kernel
theorem d_M_isNear_34 : decode b_M_isNear 34 = .ok (.iload_n 2, 1) := by decide +kernel
theorem d_M_isNear_35 : decode b_M_isNear 35 = .ok (.if_icmp .ge 43, 3) := by decide +kernel
theorem d_M_isNear_38 : decode b_M_isNear 38 = .ok (.iload 10, 2) := by decide +kernel
theorem d_M_isNear_40 : decode b_M_isNear 40 = .ok (.ifCond .ne 25, 3) := by decide +kernel
theorem d_M_isNear_43 : decode b_M_isNear 43 = .ok (.aload_n 0, 1) := by decide +kernel
theorem d_M_isNear_44 : decode b_M_isNear 44 = .ok (.lload 6, 2) := by decide +kernel
theorem d_M_isNear_46 : decode b_M_isNear 46 = .ok (.lload 8, 2) := by decide +kernel
theorem d_M_isNear_48 : decode b_M_isNear 48 = .ok (.iload_n 1, 1) := by decide +kernel
theorem d_M_isNear_49 : decode b_M_isNear 49 = .ok (.aload_n 0, 1) := by decide +kernel
theorem d_M_isNear_50 : decode b_M_isNear 50 = .ok (.getfield 164, 3) := by decide +kernel
theorem d_M_isNear_53 : decode b_M_isNear 53 = .ok (.iadd, 1) := by decide +kernel
theorem d_M_isNear_54 : decode b_M_isNear 54 = .ok (.iload 11, 2) := by decide +kernel
theorem d_M_isNear_56 : decode b_M_isNear 56 = .ok (.iadd, 1) := by decide +kernel
theorem d_M_isNear_57 : decode b_M_isNear 57 = .ok (.iload 5, 2) := by decide +kernel
theorem d_M_isNear_59 : decode b_M_isNear 59 = .ok (.invokevirtual 200, 3) := by decide +kernel
theorem d_M_isNear_62 : decode b_M_isNear 62 = .ok (.ifCond .eq 7, 3) := by decide +kernel
theorem d_M_isNear_65 : decode b_M_isNear 65 = .ok (.iconst 1, 1) := by decide +kernel
theorem d_M_isNear_66 : decode b_M_isNear 66 = .ok (.goto 4, 3) := by decide +kernel
theorem d_M_isNear_69 : decode b_M_isNear 69 = .ok (.iconst 0, 1) := by decide +kernel
theorem d_M_isNear_70 : decode b_M_isNear 70 = .ok (.istore 10, 2) := by decide +kernel
theorem d_M_isNear_72 : decode b_M_isNear 72 = .ok (.iinc 11 1, 3) := by decide +kernel
theorem d_M_isNear_75 : decode b_M_isNear 75 = .ok (.goto (-43), 3) := by decide +kernel
theorem d_M_isNear_78 : decode b_M_isNear 78 = .ok (.iload 10, 2) := by decide +kernel
theorem d_M_isNear_80 : decode b_M_isNear 80 = .ok (.ireturn, 1) := by decide +kernel
theorem d_M_fits_0 : decode b_M_fits 0 = .ok (.aload_n 0, 1) := by decide +kernel
theorem d_M_fits_1 : decode b_M_fits 1 = .ok (.iload_n 1, 1) := by decide +kernel
theorem d_M_fits_2 : decode b_M_fits 2 = .ok (.iload_n 2, 1) := by decide +kernel
theorem d_M_fits_3 : decode b_M_fits 3 = .ok (.iload_n 3, 1) := by decide +kernel
theorem d_M_fits_4 : decode b_M_fits 4 = .ok (.invokevirtual 204, 3) := by decide +kernel
theorem d_M_fits_7 : decode b_M_fits 7 = .ok (.iconst 1, 1) := by decide +kernel
theorem d_M_fits_8 : decode b_M_fits 8 = .ok (.istore 4, 2) := by decide +kernel
theorem d_M_fits_10 : decode b_M_fits 10 = .ok (.iconst 1, 1) := by decide +kernel
theorem d_M_fits_11 : decode b_M_fits 11 = .ok (.istore 5, 2) := by decide +kernel
theorem d_M_fits_13 : decode b_M_fits 13 = .ok (.iload 5, 2) := by decide +kernel
theorem d_M_fits_15 : decode b_M_fits 15 = .ok (.bipush 8, 2) := by decide +kernel
theorem d_M_fits_17 : decode b_M_fits 17 = .ok (.if_icmp .ge 29, 3) := by decide +kernel
theorem d_M_fits_20 : decode b_M_fits 20 = .ok (.iload 4, 2) := by decide +kernel
theorem d_M_fits_22 : decode b_M_fits 22 = .ok (.ifCond .eq 24, 3) := by decide +kernel
theorem d_M_fits_25 : decode b_M_fits 25 = .ok (.aload_n 0, 1) := by decide +kernel
theorem d_M_fits_26 : decode b_M_fits 26 = .ok (.iload_n 1, 1) := by decide +kernel
theorem d_M_fits_27 : decode b_M_fits 27 = .ok (.iload_n 2, 1) := by decide +kernel
theorem d_M_fits_28 : decode b_M_fits 28 = .ok (.iload 5, 2) := by decide +kernel
theorem d_M_fits_30 : decode b_M_fits 30 = .ok (.iconst 0, 1) := by decide +kernel
theorem d_M_fits_31 : decode b_M_fits 31 = .ok (.aload_n 0, 1) := by decide +kernel
theorem d_M_fits_32 : decode b_M_fits 32 = .ok (.getfield 207, 3) := by decide +kernel
theorem d_M_fits_35 : decode b_M_fits 35 = .ok (.invokevirtual 210, 3) := by decide +kernel
theorem d_M_fits_38 : decode b_M_fits 38 = .ok (.istore 4, 2) := by decide +kernel
theorem d_M_fits_40 : decode b_M_fits 40 = .ok (.iinc 5 1, 3) := by decide +kernel
theorem d_M_fits_43 : decode b_M_fits 43 = .ok (.goto (-30), 3) := by decide +kernel
theorem d_M_fits_46 : decode b_M_fits 46 = .ok (.iload 4, 2) := by decide +kernel
theorem d_M_fits_48 : decode b_M_fits 48 = .ok (.ireturn, 1) := by decide +kernel
theorem d_M_isSharp_0 : decode b_M_isSharp 0 = .ok (.aload_n 0, 1) := by decide +kernel
theorem d_M_isSharp_1 : decode b_M_isSharp 1 = .ok (.iload_n 1, 1) := by decide +kernel
theorem d_M_isSharp_2 : decode b_M_isSharp 2 = .ok (.aload_n 0, 1) := by decide +kernel
theorem d_M_isSharp_3 : decode b_M_isSharp 3 = .ok (.getfield 164, 3) := by decide +kernel
theorem d_M_isSharp_6 : decode b_M_isSharp 6 = .ok (.irem, 1) := by decide +kernel
theorem d_M_isSharp_7 : decode b_M_isSharp 7 = .ok (.invokevirtual 186, 3) := by decide +kernel
theorem d_M_isSharp_10 : decode b_M_isSharp 10 = .ok (.aload_n 0, 1) := by decide +kernel
theorem d_M_isSharp_11 : decode b_M_isSharp 11 = .ok (.getfield 214, 3) := by decide +kernel
theorem d_M_isSharp_14 : decode b_M_isSharp 14 = .ok (.if_icmp .lt 7, 3) := by decide +kernel
theorem d_M_isSharp_17 : decode b_M_isSharp 17 = .ok (.iconst 1, 1) := by decide +kernel
theorem d_M_isSharp_18 : decode b_M_isSharp 18 = .ok (.goto 4, 3) := by decide +kernel
theorem d_M_isSharp_21 : decode b_M_isSharp 21 = .ok (.iconst 0, 1) := by decide +kernel
theorem d_M_isSharp_22 : decode b_M_isSharp 22 = .ok (.ireturn, 1) := by decide +kernel
theorem d_M_joined_0 : decode b_M_joined 0 = .ok (.aload_n 0, 1) := by decide +kernel
theorem d_M_joined_1 : decode b_M_joined 1 = .ok (.iload_n 1, 1) := by decide +kernel
theorem d_M_joined_2 : decode b_M_joined 2 = .ok (.aload_n 0, 1) := by decide +kernel
theorem d_M_joined_3 : decode b_M_joined 3 = .ok (.getfield 164, 3) := by decide +kernel
theorem d_M_joined_6 : decode b_M_joined 6 = .ok (.irem, 1) := by decide +kernel
theorem d_M_joined_7 : decode b_M_joined 7 = .ok (.invokevirtual 189, 3) := by decide +kernel
theorem d_M_joined_10 : decode b_M_joined 10 = .ok (.istore_n 3, 1) := by decide +kernel
theorem d_M_joined_11 : decode b_M_joined 11 = .ok (.iload_n 3, 1) := by decide +kernel
theorem d_M_joined_12 : decode b_M_joined 12 = .ok (.ifCond .eq 7, 3) := by decide +kernel
theorem d_M_joined_15 : decode b_M_joined 15 = .ok (.iconst 1, 1) := by decide +kernel
theorem d_M_joined_16 : decode b_M_joined 16 = .ok (.goto 4, 3) := by decide +kernel
theorem d_M_joined_19 : decode b_M_joined 19 = .ok (.iconst 0, 1) := by decide +kernel
theorem d_M_joined_20 : decode b_M_joined 20 = .ok (.istore 4, 2) := by decide +kernel
theorem d_M_joined_22 : decode b_M_joined 22 = .ok (.iload_n 1, 1) := by decide +kernel
theorem d_M_joined_23 : decode b_M_joined 23 = .ok (.istore 5, 2) := by decide +kernel
theorem d_M_joined_25 : decode b_M_joined 25 = .ok (.iload 5, 2) := by decide +kernel
theorem d_M_joined_27 : decode b_M_joined 27 = .ok (.iload_n 1, 1) := by decide +kernel
theorem d_M_joined_28 : decode b_M_joined 28 = .ok (.iload_n 2, 1) := by decide +kernel
theorem d_M_joined_29 : decode b_M_joined 29 = .ok (.iadd, 1) := by decide +kernel
theorem d_M_joined_30 : decode b_M_joined 30 = .ok (.if_icmp .ge 45, 3) := by decide +kernel
theorem d_M_joined_33 : decode b_M_joined 33 = .ok (.iload 4, 2) := by decide +kernel
theorem d_M_joined_35 : decode b_M_joined 35 = .ok (.ifCond .eq 31, 3) := by decide +kernel
theorem d_M_joined_38 : decode b_M_joined 38 = .ok (.aload_n 0, 1) := by decide +kernel
theorem d_M_joined_39 : decode b_M_joined 39 = .ok (.iload 5, 2) := by decide +kernel
theorem d_M_joined_41 : decode b_M_joined 41 = .ok (.invokevirtual 217, 3) := by decide +kernel
theorem d_M_joined_44 : decode b_M_joined 44 = .ok (.ifCond .ne 22, 3) := by decide +kernel
theorem d_M_joined_47 : decode b_M_joined 47 = .ok (.aload_n 0, 1) := by decide +kernel
theorem d_M_joined_48 : decode b_M_joined 48 = .ok (.iload 5, 2) := by decide +kernel
theorem d_M_joined_50 : decode b_M_joined 50 = .ok (.aload_n 0, 1) := by decide +kernel
theorem d_M_joined_51 : decode b_M_joined 51 = .ok (.getfield 164, 3) := by decide +kernel
theorem d_M_joined_54 : decode b_M_joined 54 = .ok (.irem, 1) := by decide +kernel
theorem d_M_joined_55 : decode b_M_joined 55 = .ok (.invokevirtual 189, 3) := by decide +kernel
theorem d_M_joined_58 : decode b_M_joined 58 = .ok (.iload_n 3, 1) := by decide +kernel
theorem d_M_joined_59 : decode b_M_joined 59 = .ok (.if_icmp .ne 7, 3) := by decide +kernel
theorem d_M_joined_62 : decode b_M_joined 62 = .ok (.iconst 1, 1) := by decide +kernel
theorem d_M_joined_63 : decode b_M_joined 63 = .ok (.goto 4, 3) := by decide +kernel
theorem d_M_joined_66 : decode b_M_joined 66 = .ok (.iconst 0, 1) := by decide +kernel
theorem d_M_joined_67 : decode b_M_joined 67 = .ok (.istore 4, 2) := by decide +kernel
theorem d_M_joined_69 : decode b_M_joined 69 = .ok (.iinc 5 1, 3) := by decide +kernel
theorem d_M_joined_72 : decode b_M_joined 72 = .ok (.goto (-47), 3) := by decide +kernel
theorem d_M_joined_75 : decode b_M_joined 75 = .ok (.iconst 1, 1) := by decide +kernel
theorem d_M_joined_76 : decode b_M_joined 76 = .ok (.istore 5, 2) := by decide +kernel
theorem d_M_joined_78 : decode b_M_joined 78 = .ok (.iload 5, 2) := by decide +kernel
theorem d_M_joined_80 : decode b_M_joined 80 = .ok (.bipush 65, 2) := by decide +kernel
theorem d_M_joined_82 : decode b_M_joined 82 = .ok (.if_icmp .ge 28, 3) := by decide +kernel
theorem d_M_joined_85 : decode b_M_joined 85 = .ok (.iload 4, 2) := by decide +kernel
theorem d_M_joined_87 : decode b_M_joined 87 = .ok (.ifCond .eq 23, 3) := by decide +kernel
theorem d_M_joined_90 : decode b_M_joined 90 = .ok (.aload_n 0, 1) := by decide +kernel
theorem d_M_joined_91 : decode b_M_joined 91 = .ok (.iload_n 1, 1) := by decide +kernel
theorem d_M_joined_92 : decode b_M_joined 92 = .ok (.iload_n 2, 1) := by decide +kernel
theorem d_M_joined_93 : decode b_M_joined 93 = .ok (.iload 5, 2) := by decide +kernel
theorem d_M_joined_95 : decode b_M_joined 95 = .ok (.invokevirtual 220, 3) := by decide +kernel
theorem d_M_joined_98 : decode b_M_joined 98 = .ok (.ifCond .eq 6, 3) := by decide +kernel
theorem d_M_joined_101 : decode b_M_joined 101 = .ok (.iload 5, 2) := by decide +kernel
theorem d_M_joined_103 : decode b_M_joined 103 = .ok (.ireturn, 1) := by decide +kernel
theorem d_M_joined_104 : decode b_M_joined 104 = .ok (.iinc 5 1, 3) := by decide +kernel
theorem d_M_joined_107 : decode b_M_joined 107 = .ok (.goto (-29), 3) := by decide +kernel
theorem d_M_joined_110 : decode b_M_joined 110 = .ok (.iconst 0, 1) := by decide +kernel
theorem d_M_joined_111 : decode b_M_joined 111 = .ok (.ireturn, 1) := by decide +kernel
theorem d_M_curves_0 : decode b_M_curves 0 = .ok (.aload_n 0, 1) := by decide +kernel
theorem d_M_curves_1 : decode b_M_curves 1 = .ok (.aload_n 0, 1) := by decide +kernel
theorem d_M_curves_2 : decode b_M_curves 2 = .ok (.getfield 86, 3) := by decide +kernel
theorem d_M_curves_5 : decode b_M_curves 5 = .ok (.ifCond .ne 7, 3) := by decide +kernel
theorem d_M_curves_8 : decode b_M_curves 8 = .ok (.iconst 1, 1) := by decide +kernel
theorem d_M_curves_9 : decode b_M_curves 9 = .ok (.goto 28, 3) := by decide +kernel
theorem d_M_curves_12 : decode b_M_curves 12 = .ok (.iload_n 1, 1) := by decide +kernel
theorem d_M_curves_13 : decode b_M_curves 13 = .ok (.iconst 0, 1) := by decide +kernel
theorem d_M_curves_14 : decode b_M_curves 14 = .ok (.bipush 65, 2) := by decide +kernel
theorem d_M_curves_16 : decode b_M_curves 16 = .ok (.invokestatic 75, 3) := by decide +kernel
theorem d_M_curves_19 : decode b_M_curves 19 = .ok (.ifCond .eq 13, 3) := by decide +kernel
theorem d_M_curves_22 : decode b_M_curves 22 = .ok (.iload_n 2, 1) := by decide +kernel
theorem d_M_curves_23 : decode b_M_curves 23 = .ok (.iconst 0, 1) := by decide +kernel
theorem d_M_curves_24 : decode b_M_curves 24 = .ok (.bipush 64, 2) := by decide +kernel
theorem d_M_curves_26 : decode b_M_curves 26 = .ok (.invokestatic 75, 3) := by decide +kernel
theorem d_M_curves_29 : decode b_M_curves 29 = .ok (.ifCond .ne 7, 3) := by decide +kernel
theorem d_M_curves_32 : decode b_M_curves 32 = .ok (.iconst 2, 1) := by decide +kernel
theorem d_M_curves_33 : decode b_M_curves 33 = .ok (.goto 4, 3) := by decide +kernel
theorem d_M_curves_36 : decode b_M_curves 36 = .ok (.iconst 0, 1) := by decide +kernel
theorem d_M_curves_37 : decode b_M_curves 37 = .ok (.invokevirtual 96, 3) := by decide +kernel
theorem d_M_curves_40 : decode b_M_curves 40 = .ok (.ifCond .eq 5, 3) := by decide +kernel
theorem d_M_curves_43 : decode b_M_curves 43 = .ok (.iconst 0, 1) := by decide +kernel
theorem d_M_curves_44 : decode b_M_curves 44 = .ok (.ireturn, 1) := by decide +kernel
theorem d_M_curves_45 : decode b_M_curves 45 = .ok (.aload_n 0, 1) := by decide +kernel
theorem d_M_curves_46 : decode b_M_curves 46 = .ok (.iload_n 1, 1) := by decide +kernel
theorem d_M_curves_47 : decode b_M_curves 47 = .ok (.putfield 214, 3) := by decide +kernel
theorem d_M_curves_50 : decode b_M_curves 50 = .ok (.aload_n 0, 1) := by decide +kernel
theorem d_M_curves_51 : decode b_M_curves 51 = .ok (.iload_n 2, 1) := by decide +kernel
theorem d_M_curves_52 : decode b_M_curves 52 = .ok (.putfield 207, 3) := by decide +kernel
theorem d_M_curves_55 : decode b_M_curves 55 = .ok (.iconst 0, 1) := by decide +kernel
theorem d_M_curves_56 : decode b_M_curves 56 = .ok (.istore_n 3, 1) := by decide +kernel
theorem d_M_curves_57 : decode b_M_curves 57 = .ok (.iload_n 3, 1) := by decide +kernel
theorem d_M_curves_58 : decode b_M_curves 58 = .ok (.aload_n 0, 1) := by decide +kernel
theorem d_M_curves_59 : decode b_M_curves 59 = .ok (.getfield 164, 3) := by decide +kernel
theorem d_M_curves_62 : decode b_M_curves 62 = .ok (.if_icmp .ge 17, 3) := by decide +kernel
theorem d_M_curves_65 : decode b_M_curves 65 = .ok (.aload_n 0, 1) := by decide +kernel
theorem d_M_curves_66 : decode b_M_curves 66 = .ok (.iload_n 3, 1) := by decide +kernel
theorem d_M_curves_67 : decode b_M_curves 67 = .ok (.invokevirtual 217, 3) := by decide +kernel
theorem d_M_curves_70 : decode b_M_curves 70 = .ok (.ifCond .ne 9, 3) := by decide +kernel
theorem d_M_curves_73 : decode b_M_curves 73 = .ok (.iinc 3 1, 3) := by decide +kernel
theorem d_M_curves_76 : decode b_M_curves 76 = .ok (.goto (-19), 3) := by decide +kernel
theorem d_M_curves_79 : decode b_M_curves 79 = .ok (.iload_n 3, 1) := by decide +kernel
theorem d_M_curves_80 : decode b_M_curves 80 = .ok (.aload_n 0, 1) := by decide +kernel
theorem d_M_curves_81 : decode b_M_curves 81 = .ok (.getfield 164, 3) := by decide +kernel
theorem d_M_curves_84 : decode b_M_curves 84 = .ok (.if_icmp .ne 7, 3) := by decide +kernel
theorem d_M_curves_87 : decode b_M_curves 87 = .ok (.iconst 0, 1) := by decide +kernel
theorem d_M_curves_88 : decode b_M_curves 88 = .ok (.goto 4, 3) := by decide +kernel
theorem d_M_curves_91 : decode b_M_curves 91 = .ok (.iload_n 3, 1) := by decide +kernel
theorem d_M_curves_92 : decode b_M_curves 92 = .ok (.istore_n 3, 1) := by decide +kernel
theorem d_M_curves_93 : decode b_M_curves 93 = .ok (.aload_n 0, 1) := by decide +kernel
theorem d_M_curves_94 : decode b_M_curves 94 = .ok (.getfield 59, 3) := by decide +kernel
theorem d_M_curves_97 : decode b_M_curves 97 = .ok (.aload_n 0, 1) := by decide +kernel
theorem d_M_curves_98 : decode b_M_curves 98 = .ok (.getfield 164, 3) := by decide +kernel
theorem d_M_curves_101 : decode b_M_curves 101 = .ok (.iconst 0, 1) := by decide +kernel
theorem d_M_curves_102 : decode b_M_curves 102 = .ok (.iastore, 1) := by decide +kernel
theorem d_M_curves_103 : decode b_M_curves 103 = .ok (.aload_n 0, 1) := by decide +kernel
theorem d_M_curves_104 : decode b_M_curves 104 = .ok (.getfield 164, 3) := by decide +kernel
theorem d_M_curves_107 : decode b_M_curves 107 = .ok (.iconst 1, 1) := by decide +kernel
theorem d_M_curves_108 : decode b_M_curves 108 = .ok (.isub, 1) := by decide +kernel
theorem d_M_curves_109 : decode b_M_curves 109 = .ok (.istore 4, 2) := by decide +kernel
theorem d_M_curves_111 : decode b_M_curves 111 = .ok (.iload 4, 2) := by decide +kernel
theorem d_M_curves_113 : decode b_M_curves 113 = .ok (.ifCond .lt 128, 3) := by decide +kernel
theorem d_M_curves_116 : decode b_M_curves 116 = .ok (.aload_n 0, 1) := by decide +kernel
theorem d_M_curves_117 : decode b_M_curves 117 = .ok (.getfield 59, 3) := by decide +kernel
theorem d_M_curves_120 : decode b_M_curves 120 = .ok (.iload 4, 2) := by decide +kernel
theorem d_M_curves_122 : decode b_M_curves 122 = .ok (.aload_n 0, 1) := by decide +kernel
theorem d_M_curves_123 : decode b_M_curves 123 = .ok (.getfield 59, 3) := by decide +kernel
theorem d_M_curves_126 : decode b_M_curves 126 = .ok (.iload 4, 2) := by decide +kernel
theorem d_M_curves_128 : decode b_M_curves 128 = .ok (.iconst 1, 1) := by decide +kernel
theorem d_M_curves_129 : decode b_M_curves 129 = .ok (.iadd, 1) := by decide +kernel
theorem d_M_curves_130 : decode b_M_curves 130 = .ok (.iaload, 1) := by decide +kernel
theorem d_M_curves_131 : decode b_M_curves 131 = .ok (.iconst 1, 1) := by decide +kernel
theorem d_M_curves_132 : decode b_M_curves 132 = .ok (.iadd, 1) := by decide +kernel
theorem d_M_curves_133 : decode b_M_curves 133 = .ok (.iastore, 1) := by decide +kernel
theorem d_M_curves_134 : decode b_M_curves 134 = .ok (.iconst 2, 1) := by decide +kernel
theorem d_M_curves_135 : decode b_M_curves 135 = .ok (.istore 5, 2) := by decide +kernel
theorem d_M_curves_137 : decode b_M_curves 137 = .ok (.iload 5, 2) := by decide +kernel
theorem d_M_curves_139 : decode b_M_curves 139 = .ok (.bipush 7, 2) := by decide +kernel
theorem d_M_curves_141 : decode b_M_curves 141 = .ok (.if_icmp .ge 94, 3) := by decide +kernel
theorem d_M_curves_144 : decode b_M_curves 144 = .ok (.iload 4, 2) := by decide +kernel
theorem d_M_curves_146 : decode b_M_curves 146 = .ok (.iload 5, 2) := by decide +kernel
theorem d_M_curves_148 : decode b_M_curves 148 = .ok (.iadd, 1) := by decide +kernel
theorem d_M_curves_149 : decode b_M_curves 149 = .ok (.aload_n 0, 1) := by decide +kernel
theorem d_M_curves_150 : decode b_M_curves 150 = .ok (.getfield 164, 3) := by decide +kernel
theorem d_M_curves_153 : decode b_M_curves 153 = .ok (.if_icmp .gt 82, 3) := by decide +kernel
theorem d_M_curves_156 : decode b_M_curves 156 = .ok (.aload_n 0, 1) := by decide +kernel
theorem d_M_curves_157 : decode b_M_curves 157 = .ok (.iload_n 3, 1) := by decide +kernel
theorem d_M_curves_158 : decode b_M_curves 158 = .ok (.iload 4, 2) := by decide +kernel
theorem d_M_curves_160 : decode b_M_curves 160 = .ok (.iadd, 1) := by decide +kernel
theorem d_M_curves_161 : decode b_M_curves 161 = .ok (.iload 5, 2) := by decide +kernel
theorem d_M_curves_163 : decode b_M_curves 163 = .ok (.invokevirtual 223, 3) := by decide +kernel
theorem d_M_curves_166 : decode b_M_curves 166 = .ok (.istore 6, 2) := by decide +kernel
theorem d_M_curves_168 : decode b_M_curves 168 = .ok (.aload_n 0, 1) := by decide +kernel
theorem d_M_curves_169 : decode b_M_curves 169 = .ok (.getfield 62, 3) := by decide +kernel
theorem d_M_curves_172 : decode b_M_curves 172 = .ok (.bipush 7, 2) := by decide +kernel
theorem d_M_curves_174 : decode b_M_curves 174 = .ok (.iload 4, 2) := by decide +kernel
theorem d_M_curves_176 : decode b_M_curves 176 = .ok (.imul, 1) := by decide +kernel
theorem d_M_curves_177 : decode b_M_curves 177 = .ok (.iload 5, 2) := by decide +kernel
theorem d_M_curves_179 : decode b_M_curves 179 = .ok (.iadd, 1) := by decide +kernel
theorem d_M_curves_180 : decode b_M_curves 180 = .ok (.iload 6, 2) := by decide +kernel
theorem d_M_curves_182 : decode b_M_curves 182 = .ok (.iastore, 1) := by decide +kernel
theorem d_M_curves_183 : decode b_M_curves 183 = .ok (.iload 6, 2) := by decide +kernel
theorem d_M_curves_185 : decode b_M_curves 185 = .ok (.ifCond .le 44, 3) := by decide +kernel
theorem d_M_curves_188 : decode b_M_curves 188 = .ok (.aload_n 0, 1) := by decide +kernel
theorem d_M_curves_189 : decode b_M_curves 189 = .ok (.getfield 59, 3) := by decide +kernel
theorem d_M_curves_192 : decode b_M_curves 192 = .ok (.iload 4, 2) := by decide +kernel
theorem d_M_curves_194 : decode b_M_curves 194 = .ok (.iload 5, 2) := by decide +kernel
theorem d_M_curves_196 : decode b_M_curves 196 = .ok (.iadd, 1) := by decide +kernel
theorem d_M_curves_197 : decode b_M_curves 197 = .ok (.iaload, 1) := by decide +kernel
theorem d_M_curves_198 : decode b_M_curves 198 = .ok (.iconst 1, 1) := by decide +kernel
theorem d_M_curves_199 : decode b_M_curves 199 = .ok (.iadd, 1) := by decide +kernel
theorem d_M_curves_200 : decode b_M_curves 200 = .ok (.aload_n 0, 1) := by decide +kernel
theorem d_M_curves_201 : decode b_M_curves 201 = .ok (.getfield 59, 3) := by decide +kernel
theorem d_M_curves_204 : decode b_M_curves 204 = .ok (.iload 4, 2) := by decide +kernel
theorem d_M_curves_206 : decode b_M_curves 206 = .ok (.iaload, 1) := by decide +kernel
theorem d_M_curves_207 : decode b_M_curves 207 = .ok (.if_icmp .ge 22, 3) := by decide +kernel
theorem d_M_curves_210 : decode b_M_curves 210 = .ok (.aload_n 0, 1) := by decide +kernel
theorem d_M_curves_211 : decode b_M_curves 211 = .ok (.getfield 59, 3) := by decide +kernel
theorem d_M_curves_214 : decode b_M_curves 214 = .ok (.iload 4, 2) := by decide +kernel
theorem d_M_curves_216 : decode b_M_curves 216 = .ok (.aload_n 0, 1) := by decide +kernel
theorem d_M_curves_217 : decode b_M_curves 217 = .ok (.getfield 59, 3) := by decide +kernel
theorem d_M_curves_220 : decode b_M_curves 220 = .ok (.iload 4, 2) := by decide +kernel
theorem d_M_curves_222 : decode b_M_curves 222 = .ok (.iload 5, 2) := by decide +kernel
theorem d_M_curves_224 : decode b_M_curves 224 = .ok (.iadd, 1) := by decide +kernel
theorem d_M_curves_225 : decode b_M_curves 225 = .ok (.iaload, 1) := by decide +kernel
theorem d_M_curves_226 : decode b_M_curves 226 = .ok (.iconst 1, 1) := by decide +kernel
theorem d_M_curves_227 : decode b_M_curves 227 = .ok (.iadd, 1) := by decide +kernel
theorem d_M_curves_228 : decode b_M_curves 228 = .ok (.iastore, 1) := by decide +kernel
theorem d_M_curves_229 : decode b_M_curves 229 = .ok (.iinc 5 1, 3) := by decide +kernel
theorem d_M_curves_232 : decode b_M_curves 232 = .ok (.goto (-95), 3) := by decide +kernel
theorem d_M_curves_235 : decode b_M_curves 235 = .ok (.iinc 4 (-1), 3) := by decide +kernel
theorem d_M_curves_238 : decode b_M_curves 238 = .ok (.goto (-127), 3) := by decide +kernel
theorem d_M_curves_241 : decode b_M_curves 241 = .ok (.aload_n 0, 1) := by decide +kernel
theorem d_M_curves_242 : decode b_M_curves 242 = .ok (.iconst 0, 1) := by decide +kernel
theorem d_M_curves_243 : decode b_M_curves 243 = .ok (.putfield 226, 3) := by decide +kernel
theorem d_M_curves_246 : decode b_M_curves 246 = .ok (.iconst 0, 1) := by decide +kernel
theorem d_M_curves_247 : decode b_M_curves 247 = .ok (.istore 4, 2) := by decide +kernel
theorem d_M_curves_249 : decode b_M_curves 249 = .ok (.iload 4, 2) := by decide +kernel
theorem d_M_curves_251 : decode b_M_curves 251 = .ok (.aload_n 0, 1) := by decide +kernel
theorem d_M_curves_252 : decode b_M_curves 252 = .ok (.getfield 164, 3) := by decide +kernel
theorem d_M_curves_255 : decode b_M_curves 255 = .ok (.if_icmp .ge 188, 3) := by decide +kernel
theorem d_M_curves_258 : decode b_M_curves 258 = .ok (.aload_n 0, 1) := by decide +kernel
theorem d_M_curves_259 : decode b_M_curves 259 = .ok (.getfield 164, 3) := by decide +kernel
theorem d_M_curves_262 : decode b_M_curves 262 = .ok (.iload 4, 2) := by decide +kernel
theorem d_M_curves_264 : decode b_M_curves 264 = .ok (.isub, 1) := by decide +kernel
theorem d_M_curves_265 : decode b_M_curves 265 = .ok (.bipush 6, 2) := by decide +kernel
theorem d_M_curves_267 : decode b_M_curves 267 = .ok (.if_icmp .ge 13, 3) := by decide +kernel
theorem d_M_curves_270 : decode b_M_curves 270 = .ok (.aload_n 0, 1) := by decide +kernel
theorem d_M_curves_271 : decode b_M_curves 271 = .ok (.getfield 164, 3) := by decide +kernel
theorem d_M_curves_274 : decode b_M_curves 274 = .ok (.iload 4, 2) := by decide +kernel
theorem d_M_curves_276 : decode b_M_curves 276 = .ok (.isub, 1) := by decide +kernel
theorem d_M_curves_277 : decode b_M_curves 277 = .ok (.goto 5, 3) := by decide +kernel
theorem d_M_curves_280 : decode b_M_curves 280 = .ok (.bipush 6, 2) := by decide +kernel
theorem d_M_curves_282 : decode b_M_curves 282 = .ok (.istore 5, 2) := by decide +kernel
theorem d_M_curves_284 : decode b_M_curves 284 = .ok (.iload 5, 2) := by decide +kernel
theorem d_M_curves_286 : decode b_M_curves 286 = .ok (.iconst 1, 1) := by decide +kernel
theorem d_M_curves_287 : decode b_M_curves 287 = .ok (.if_icmp .le 47, 3) := by decide +kernel
theorem d_M_curves_290 : decode b_M_curves 290 = .ok (.aload_n 0, 1) := by decide +kernel
theorem d_M_curves_291 : decode b_M_curves 291 = .ok (.getfield 62, 3) := by decide +kernel
theorem d_M_curves_294 : decode b_M_curves 294 = .ok (.bipush 7, 2) := by decide +kernel
theorem d_M_curves_296 : decode b_M_curves 296 = .ok (.iload 4, 2) := by decide +kernel
theorem d_M_curves_298 : decode b_M_curves 298 = .ok (.imul, 1) := by decide +kernel
theorem d_M_curves_299 : decode b_M_curves 299 = .ok (.iload 5, 2) := by decide +kernel
theorem d_M_curves_301 : decode b_M_curves 301 = .ok (.iadd, 1) := by decide +kernel
theorem d_M_curves_302 : decode b_M_curves 302 = .ok (.iaload, 1) := by decide +kernel
theorem d_M_curves_303 : decode b_M_curves 303 = .ok (.ifCond .eq 25, 3) := by decide +kernel
theorem d_M_curves_306 : decode b_M_curves 306 = .ok (.aload_n 0, 1) := by decide +kernel
theorem d_M_curves_307 : decode b_M_curves 307 = .ok (.getfield 59, 3) := by decide +kernel
theorem d_M_curves_310 : decode b_M_curves 310 = .ok (.iload 4, 2) := by decide +kernel
theorem d_M_curves_312 : decode b_M_curves 312 = .ok (.iload 5, 2) := by decide +kernel
theorem d_M_curves_314 : decode b_M_curves 314 = .ok (.iadd, 1) := by decide +kernel
theorem d_M_curves_315 : decode b_M_curves 315 = .ok (.iaload, 1) := by decide +kernel
theorem d_M_curves_316 : decode b_M_curves 316 = .ok (.iconst 1, 1) := by decide +kernel
theorem d_M_curves_317 : decode b_M_curves 317 = .ok (.iadd, 1) := by decide +kernel
theorem d_M_curves_318 : decode b_M_curves 318 = .ok (.aload_n 0, 1) := by decide +kernel
theorem d_M_curves_319 : decode b_M_curves 319 = .ok (.getfield 59, 3) := by decide +kernel
theorem d_M_curves_322 : decode b_M_curves 322 = .ok (.iload 4, 2) := by decide +kernel
theorem d_M_curves_324 : decode b_M_curves 324 = .ok (.iaload, 1) := by decide +kernel
theorem d_M_curves_325 : decode b_M_curves 325 = .ok (.if_icmp .eq 9, 3) := by decide +kernel
theorem d_M_curves_328 : decode b_M_curves 328 = .ok (.iinc 5 (-1), 3) := by decide +kernel
theorem d_M_curves_331 : decode b_M_curves 331 = .ok (.goto (-47), 3) := by decide +kernel
theorem d_M_curves_334 : decode b_M_curves 334 = .ok (.iload_n 3, 1) := by decide +kernel
theorem d_M_curves_335 : decode b_M_curves 335 = .ok (.iload 4, 2) := by decide +kernel
theorem d_M_curves_337 : decode b_M_curves 337 = .ok (.iadd, 1) := by decide +kernel
theorem d_M_curves_338 : decode b_M_curves 338 = .ok (.aload_n 0, 1) := by decide +kernel
theorem d_M_curves_339 : decode b_M_curves 339 = .ok (.getfield 164, 3) := by decide +kernel
theorem d_M_curves_342 : decode b_M_curves 342 = .ok (.irem, 1) := by decide +kernel
theorem d_M_curves_343 : decode b_M_curves 343 = .ok (.istore 6, 2) := by decide +kernel
theorem d_M_curves_345 : decode b_M_curves 345 = .ok (.aload_n 0, 1) := by decide +kernel
theorem d_M_curves_346 : decode b_M_curves 346 = .ok (.getfield 44, 3) := by decide +kernel
theorem d_M_curves_349 : decode b_M_curves 349 = .ok (.aload_n 0, 1) := by decide +kernel
theorem d_M_curves_350 : decode b_M_curves 350 = .ok (.getfield 226, 3) := by decide +kernel
theorem d_M_curves_353 : decode b_M_curves 353 = .ok (.iload 6, 2) := by decide +kernel
theorem d_M_curves_355 : decode b_M_curves 355 = .ok (.iastore, 1) := by decide +kernel
theorem d_M_curves_356 : decode b_M_curves 356 = .ok (.aload_n 0, 1) := by decide +kernel
theorem d_M_curves_357 : decode b_M_curves 357 = .ok (.getfield 47, 3) := by decide +kernel
theorem d_M_curves_360 : decode b_M_curves 360 = .ok (.aload_n 0, 1) := by decide +kernel
theorem d_M_curves_361 : decode b_M_curves 361 = .ok (.getfield 226, 3) := by decide +kernel
theorem d_M_curves_364 : decode b_M_curves 364 = .ok (.iload 5, 2) := by decide +kernel
theorem d_M_curves_366 : decode b_M_curves 366 = .ok (.iastore, 1) := by decide +kernel
theorem d_M_curves_367 : decode b_M_curves 367 = .ok (.aload_n 0, 1) := by decide +kernel
theorem d_M_curves_368 : decode b_M_curves 368 = .ok (.getfield 50, 3) := by decide +kernel
theorem d_M_curves_371 : decode b_M_curves 371 = .ok (.aload_n 0, 1) := by decide +kernel
theorem d_M_curves_372 : decode b_M_curves 372 = .ok (.getfield 226, 3) := by decide +kernel
theorem d_M_curves_375 : decode b_M_curves 375 = .ok (.iload 5, 2) := by decide +kernel
theorem d_M_curves_377 : decode b_M_curves 377 = .ok (.iconst 1, 1) := by decide +kernel
theorem d_M_curves_378 : decode b_M_curves 378 = .ok (.if_icmp .le 19, 3) := by decide +kernel
theorem d_M_curves_381 : decode b_M_curves 381 = .ok (.aload_n 0, 1) := by decide +kernel
theorem d_M_curves_382 : decode b_M_curves 382 = .ok (.getfield 62, 3) := by decide +kernel
theorem d_M_curves_385 : decode b_M_curves 385 = .ok (.bipush 7, 2) := by decide +kernel
theorem d_M_curves_387 : decode b_M_curves 387 = .ok (.iload 4, 2) := by decide +kernel
theorem d_M_curves_389 : decode b_M_curves 389 = .ok (.imul, 1) := by decide +kernel
theorem d_M_curves_390 : decode b_M_curves 390 = .ok (.iload 5, 2) := by decide +kernel
theorem d_M_curves_392 : decode b_M_curves 392 = .ok (.iadd, 1) := by decide +kernel
theorem d_M_curves_393 : decode b_M_curves 393 = .ok (.iaload, 1) := by decide +kernel
theorem d_M_curves_394 : decode b_M_curves 394 = .ok (.goto 28, 3) := by decide +kernel
theorem d_M_curves_397 : decode b_M_curves 397 = .ok (.aload_n 0, 1) := by decide +kernel
theorem d_M_curves_398 : decode b_M_curves 398 = .ok (.iload 6, 2) := by decide +kernel
theorem d_M_curves_400 : decode b_M_curves 400 = .ok (.invokevirtual 217, 3) := by decide +kernel
theorem d_M_curves_403 : decode b_M_curves 403 = .ok (.ifCond .eq 7, 3) := by decide +kernel
theorem d_M_curves_406 : decode b_M_curves 406 = .ok (.iconst 0, 1) := by decide +kernel
theorem d_M_curves_407 : decode b_M_curves 407 = .ok (.goto 15, 3) := by decide +kernel
theorem d_M_curves_410 : decode b_M_curves 410 = .ok (.bipush 8, 2) := by decide +kernel
theorem d_M_curves_412 : decode b_M_curves 412 = .ok (.aload_n 0, 1) := by decide +kernel
theorem d_M_curves_413 : decode b_M_curves 413 = .ok (.iload 6, 2) := by decide +kernel
theorem d_M_curves_415 : decode b_M_curves 415 = .ok (.invokevirtual 186, 3) := by decide +kernel
theorem d_M_curves_418 : decode b_M_curves 418 = .ok (.bipush 8, 2) := by decide +kernel
theorem d_M_curves_420 : decode b_M_curves 420 = .ok (.idiv, 1) := by decide +kernel
theorem d_M_curves_421 : decode b_M_curves 421 = .ok (.iadd, 1) := by decide +kernel
theorem d_M_curves_422 : decode b_M_curves 422 = .ok (.iastore, 1) := by decide +kernel
theorem d_M_curves_423 : decode b_M_curves 423 = .ok (.aload_n 0, 1) := by decide +kernel
theorem d_M_curves_424 : decode b_M_curves 424 = .ok (.dup, 1) := by decide +kernel
theorem d_M_curves_425 : decode b_M_curves 425 = .ok (.getfield 226, 3) := by decide +kernel
theorem d_M_curves_428 : decode b_M_curves 428 = .ok (.iconst 1, 1) := by decide +kernel
theorem d_M_curves_429 : decode b_M_curves 429 = .ok (.iadd, 1) := by decide +kernel
theorem d_M_curves_430 : decode b_M_curves 430 = .ok (.putfield 226, 3) := by decide +kernel
theorem d_M_curves_433 : decode b_M_curves 433 = .ok (.iload 4, 2) := by decide +kernel
theorem d_M_curves_435 : decode b_M_curves 435 = .ok (.iload 5, 2) := by decide +kernel
theorem d_M_curves_437 : decode b_M_curves 437 = .ok (.iadd, 1) := by decide +kernel
theorem d_M_curves_438 : decode b_M_curves 438 = .ok (.istore 4, 2) := by decide +kernel
theorem d_M_curves_440 : decode b_M_curves 440 = .ok (.goto (-191), 3) := by decide +kernel
theorem d_M_curves_443 : decode b_M_curves 443 = .ok (.aload_n 0, 1) := by decide +kernel
theorem d_M_curves_444 : decode b_M_curves 444 = .ok (.iconst 1, 1) := by decide +kernel
theorem d_M_curves_445 : decode b_M_curves 445 = .ok (.putfield 89, 3) := by decide +kernel
theorem d_M_curves_448 : decode b_M_curves 448 = .ok (.aload_n 0, 1) := by decide +kernel
theorem d_M_curves_449 : decode b_M_curves 449 = .ok (.getfield 226, 3) := by decide +kernel
theorem d_M_curves_452 : decode b_M_curves 452 = .ok (.ireturn, 1) := by decide +kernel
theorem d_M_setCurve_0 : decode b_M_setCurve 0 = .ok (.aload_n 0, 1) := by decide +kernel
theorem d_M_setCurve_1 : decode b_M_setCurve 1 = .ok (.aload_n 0, 1) := by decide +kernel
theorem d_M_setCurve_2 : decode b_M_setCurve 2 = .ok (.getfield 44, 3) := by decide +kernel
theorem d_M_setCurve_5 : decode b_M_setCurve 5 = .ok (.iload_n 1, 1) := by decide +kernel
theorem d_M_setCurve_6 : decode b_M_setCurve 6 = .ok (.iaload, 1) := by decide +kernel
theorem d_M_setCurve_7 : decode b_M_setCurve 7 = .ok (.aload_n 0, 1) := by decide +kernel
theorem d_M_setCurve_8 : decode b_M_setCurve 8 = .ok (.getfield 47, 3) := by decide +kernel
theorem d_M_setCurve_11 : decode b_M_setCurve 11 = .ok (.iload_n 1, 1) := by decide +kernel
theorem d_M_setCurve_12 : decode b_M_setCurve 12 = .ok (.iaload, 1) := by decide +kernel
theorem d_M_setCurve_13 : decode b_M_setCurve 13 = .ok (.aload_n 0, 1) := by decide +kernel
theorem d_M_setCurve_14 : decode b_M_setCurve 14 = .ok (.getfield 50, 3) := by decide +kernel
theorem d_M_setCurve_17 : decode b_M_setCurve 17 = .ok (.iload_n 1, 1) := by decide +kernel
theorem d_M_setCurve_18 : decode b_M_setCurve 18 = .ok (.iaload, 1) := by decide +kernel
theorem d_M_setCurve_19 : decode b_M_setCurve 19 = .ok (.invokevirtual 204, 3) := by decide +kernel
theorem d_M_setCurve_22 : decode b_M_setCurve 22 = .ok (.return_, 1) := by decide +kernel
theorem d_M_curve_0 : decode b_M_curve 0 = .ok (.aload_n 0, 1) := by decide +kernel
theorem d_M_curve_1 : decode b_M_curve 1 = .ok (.aload_n 0, 1) := by decide +kernel
theorem d_M_curve_2 : decode b_M_curve 2 = .ok (.getfield 89, 3) := by decide +kernel
theorem d_M_curve_5 : decode b_M_curve 5 = .ok (.ifCond .ne 7, 3) := by decide +kernel
theorem d_M_curve_8 : decode b_M_curve 8 = .ok (.iconst 1, 1) := by decide +kernel
theorem d_M_curve_9 : decode b_M_curve 9 = .ok (.goto 22, 3) := by decide +kernel
theorem d_M_curve_12 : decode b_M_curve 12 = .ok (.iload_n 1, 1) := by decide +kernel
theorem d_M_curve_13 : decode b_M_curve 13 = .ok (.iconst 0, 1) := by decide +kernel
theorem d_M_curve_14 : decode b_M_curve 14 = .ok (.aload_n 0, 1) := by decide +kernel
theorem d_M_curve_15 : decode b_M_curve 15 = .ok (.getfield 226, 3) := by decide +kernel
theorem d_M_curve_18 : decode b_M_curve 18 = .ok (.iconst 1, 1) := by decide +kernel
theorem d_M_curve_19 : decode b_M_curve 19 = .ok (.isub, 1) := by decide +kernel
theorem d_M_curve_20 : decode b_M_curve 20 = .ok (.invokestatic 75, 3) := by decide +kernel
theorem d_M_curve_23 : decode b_M_curve 23 = .ok (.ifCond .ne 7, 3) := by decide +kernel
theorem d_M_curve_26 : decode b_M_curve 26 = .ok (.iconst 2, 1) := by decide +kernel
theorem d_M_curve_27 : decode b_M_curve 27 = .ok (.goto 4, 3) := by decide +kernel
theorem d_M_curve_30 : decode b_M_curve 30 = .ok (.iconst 0, 1) := by decide +kernel
theorem d_M_curve_31 : decode b_M_curve 31 = .ok (.invokevirtual 96, 3) := by decide +kernel
theorem d_M_curve_34 : decode b_M_curve 34 = .ok (.ifCond .eq 5, 3) := by decide +kernel
theorem d_M_curve_37 : decode b_M_curve 37 = .ok (.iconst 0, 1) := by decide +kernel
theorem d_M_curve_38 : decode b_M_curve 38 = .ok (.ireturn, 1) := by decide +kernel
theorem d_M_curve_39 : decode b_M_curve 39 = .ok (.iload_n 2, 1) := by decide +kernel
theorem d_M_curve_40 : decode b_M_curve 40 = .ok (.ifCond .lt 9, 3) := by decide +kernel
theorem d_M_curve_43 : decode b_M_curve 43 = .ok (.iload_n 2, 1) := by decide +kernel
theorem d_M_curve_44 : decode b_M_curve 44 = .ok (.bipush 10, 2) := by decide +kernel
theorem d_M_curve_46 : decode b_M_curve 46 = .ok (.if_icmp .le 5, 3) := by decide +kernel
theorem d_M_curve_49 : decode b_M_curve 49 = .ok (.iconst (-1), 1) := by decide +kernel
theorem d_M_curve_50 : decode b_M_curve 50 = .ok (.ireturn, 1) := by decide +kernel
theorem d_M_curve_51 : decode b_M_curve 51 = .ok (.aload_n 0, 1) := by decide +kernel
theorem d_M_curve_52 : decode b_M_curve 52 = .ok (.iload_n 1, 1) := by decide +kernel
theorem d_M_curve_53 : decode b_M_curve 53 = .ok (.invokevirtual 229, 3) := by decide +kernel
theorem d_M_curve_56 : decode b_M_curve 56 = .ok (.iload_n 2, 1) := by decide +kernel
theorem d_M_curve_57 : decode b_M_curve 57 = .ok (.iconst 3, 1) := by decide +kernel
theorem d_M_curve_58 : decode b_M_curve 58 = .ok (.if_icmp .ge 37, 3) := by decide +kernel
theorem d_M_curve_61 : decode b_M_curve 61 = .ok (.iload_n 2, 1) := by decide +kernel
theorem d_M_curve_62 : decode b_M_curve 62 = .ok (.ifCond .ne 12, 3) := by decide +kernel
theorem d_M_curve_65 : decode b_M_curve 65 = .ok (.aload_n 0, 1) := by decide +kernel
theorem d_M_curve_66 : decode b_M_curve 66 = .ok (.getfield 44, 3) := by decide +kernel
theorem d_M_curve_69 : decode b_M_curve 69 = .ok (.iload_n 1, 1) := by decide +kernel
theorem d_M_curve_70 : decode b_M_curve 70 = .ok (.iaload, 1) := by decide +kernel
theorem d_M_curve_71 : decode b_M_curve 71 = .ok (.goto 23, 3) := by decide +kernel
theorem d_M_curve_74 : decode b_M_curve 74 = .ok (.iload_n 2, 1) := by decide +kernel
theorem d_M_curve_75 : decode b_M_curve 75 = .ok (.iconst 1, 1) := by decide +kernel
theorem d_M_curve_76 : decode b_M_curve 76 = .ok (.if_icmp .ne 12, 3) := by decide +kernel
theorem d_M_curve_79 : decode b_M_curve 79 = .ok (.aload_n 0, 1) := by decide +kernel
theorem d_M_curve_80 : decode b_M_curve 80 = .ok (.getfield 47, 3) := by decide +kernel
theorem d_M_curve_83 : decode b_M_curve 83 = .ok (.iload_n 1, 1) := by decide +kernel
theorem d_M_curve_84 : decode b_M_curve 84 = .ok (.iaload, 1) := by decide +kernel
theorem d_M_curve_85 : decode b_M_curve 85 = .ok (.goto 9, 3) := by decide +kernel
theorem d_M_curve_88 : decode b_M_curve 88 = .ok (.aload_n 0, 1) := by decide +kernel
theorem d_M_curve_89 : decode b_M_curve 89 = .ok (.getfield 50, 3) := by decide +kernel
theorem d_M_curve_92 : decode b_M_curve 92 = .ok (.iload_n 1, 1) := by decide +kernel
theorem d_M_curve_93 : decode b_M_curve 93 = .ok (.iaload, 1) := by decide +kernel
theorem d_M_curve_94 : decode b_M_curve 94 = .ok (.ireturn, 1) := by decide +kernel
theorem d_M_curve_95 : decode b_M_curve 95 = .ok (.iload_n 2, 1) := by decide +kernel
theorem d_M_curve_96 : decode b_M_curve 96 = .ok (.iconst 2, 1) := by decide +kernel
theorem d_M_curve_97 : decode b_M_curve 97 = .ok (.irem, 1) := by decide +kernel
theorem d_M_curve_98 : decode b_M_curve 98 = .ok (.iconst 1, 1) := by decide +kernel
theorem d_M_curve_99 : decode b_M_curve 99 = .ok (.if_icmp .ne 16, 3) := by decide +kernel
theorem d_M_curve_102 : decode b_M_curve 102 = .ok (.aload_n 0, 1) := by decide +kernel
theorem d_M_curve_103 : decode b_M_curve 103 = .ok (.getfield 53, 3) := by decide +kernel
theorem d_M_curve_106 : decode b_M_curve 106 = .ok (.iload_n 2, 1) := by decide +kernel
theorem d_M_curve_107 : decode b_M_curve 107 = .ok (.iconst 3, 1) := by decide +kernel
theorem d_M_curve_108 : decode b_M_curve 108 = .ok (.isub, 1) := by decide +kernel
theorem d_M_curve_109 : decode b_M_curve 109 = .ok (.iconst 2, 1) := by decide +kernel
theorem d_M_curve_110 : decode b_M_curve 110 = .ok (.idiv, 1) := by decide +kernel
theorem d_M_curve_111 : decode b_M_curve 111 = .ok (.iaload, 1) := by decide +kernel
theorem d_M_curve_112 : decode b_M_curve 112 = .ok (.goto 13, 3) := by decide +kernel
theorem d_M_curve_115 : decode b_M_curve 115 = .ok (.aload_n 0, 1) := by decide +kernel
theorem d_M_curve_116 : decode b_M_curve 116 = .ok (.getfield 56, 3) := by decide +kernel
theorem d_M_curve_119 : decode b_M_curve 119 = .ok (.iload_n 2, 1) := by decide +kernel
theorem d_M_curve_120 : decode b_M_curve 120 = .ok (.iconst 3, 1) := by decide +kernel
theorem d_M_curve_121 : decode b_M_curve 121 = .ok (.isub, 1) := by decide +kernel
theorem d_M_curve_122 : decode b_M_curve 122 = .ok (.iconst 2, 1) := by decide +kernel
theorem d_M_curve_123 : decode b_M_curve 123 = .ok (.idiv, 1) := by decide +kernel
theorem d_M_curve_124 : decode b_M_curve 124 = .ok (.iaload, 1) := by decide +kernel
theorem d_M_curve_125 : decode b_M_curve 125 = .ok (.ireturn, 1) := by decide +kernel
theorem d_M_place_0 : decode b_M_place 0 = .ok (.aload_n 0, 1) := by decide +kernel
theorem d_M_place_1 : decode b_M_place 1 = .ok (.aload_n 0, 1) := by decide +kernel
theorem d_M_place_2 : decode b_M_place 2 = .ok (.getfield 89, 3) := by decide +kernel
theorem d_M_place_5 : decode b_M_place 5 = .ok (.ifCond .ne 7, 3) := by decide +kernel
theorem d_M_place_8 : decode b_M_place 8 = .ok (.iconst 1, 1) := by decide +kernel
theorem d_M_place_9 : decode b_M_place 9 = .ok (.goto 45, 3) := by decide +kernel
theorem d_M_place_12 : decode b_M_place 12 = .ok (.iload_n 1, 1) := by decide +kernel
theorem d_M_place_13 : decode b_M_place 13 = .ok (.iconst 0, 1) := by decide +kernel
theorem d_M_place_14 : decode b_M_place 14 = .ok (.aload_n 0, 1) := by decide +kernel
theorem d_M_place_15 : decode b_M_place 15 = .ok (.getfield 226, 3) := by decide +kernel
theorem d_M_place_18 : decode b_M_place 18 = .ok (.iconst 1, 1) := by decide +kernel
theorem d_M_place_19 : decode b_M_place 19 = .ok (.isub, 1) := by decide +kernel
theorem d_M_place_20 : decode b_M_place 20 = .ok (.invokestatic 75, 3) := by decide +kernel
theorem d_M_place_23 : decode b_M_place 23 = .ok (.ifCond .ne 7, 3) := by decide +kernel
theorem d_M_place_26 : decode b_M_place 26 = .ok (.iconst 2, 1) := by decide +kernel
theorem d_M_place_27 : decode b_M_place 27 = .ok (.goto 27, 3) := by decide +kernel
theorem d_M_place_30 : decode b_M_place 30 = .ok (.iload_n 2, 1) := by decide +kernel
theorem d_M_place_31 : decode b_M_place 31 = .ok (.iconst 0, 1) := by decide +kernel
theorem d_M_place_32 : decode b_M_place 32 = .ok (.bipush 8, 2) := by decide +kernel
theorem d_M_place_34 : decode b_M_place 34 = .ok (.invokestatic 75, 3) := by decide +kernel
theorem d_M_place_37 : decode b_M_place 37 = .ok (.ifCond .eq 12, 3) := by decide +kernel
theorem d_M_place_40 : decode b_M_place 40 = .ok (.iload_n 3, 1) := by decide +kernel
theorem d_M_place_41 : decode b_M_place 41 = .ok (.iconst 0, 1) := by decide +kernel
theorem d_M_place_42 : decode b_M_place 42 = .ok (.iconst 1, 1) := by decide +kernel
theorem d_M_place_43 : decode b_M_place 43 = .ok (.invokestatic 75, 3) := by decide +kernel
theorem d_M_place_46 : decode b_M_place 46 = .ok (.ifCond .ne 7, 3) := by decide +kernel
theorem d_M_place_49 : decode b_M_place 49 = .ok (.iconst 3, 1) := by decide +kernel
theorem d_M_place_50 : decode b_M_place 50 = .ok (.goto 4, 3) := by decide +kernel
theorem d_M_place_53 : decode b_M_place 53 = .ok (.iconst 0, 1) := by decide +kernel
theorem d_M_place_54 : decode b_M_place 54 = .ok (.invokevirtual 96, 3) := by decide +kernel
theorem d_M_place_57 : decode b_M_place 57 = .ok (.ifCond .eq 5, 3) := by decide +kernel
theorem d_M_place_60 : decode b_M_place 60 = .ok (.iconst 0, 1) := by decide +kernel
theorem d_M_place_61 : decode b_M_place 61 = .ok (.ireturn, 1) := by decide +kernel
theorem d_M_place_62 : decode b_M_place 62 = .ok (.aload_n 0, 1) := by decide +kernel
theorem d_M_place_63 : decode b_M_place 63 = .ok (.iload_n 1, 1) := by decide +kernel
theorem d_M_place_64 : decode b_M_place 64 = .ok (.invokevirtual 229, 3) := by decide +kernel
theorem d_M_place_67 : decode b_M_place 67 = .ok (.iload_n 3, 1) := by decide +kernel
theorem d_M_place_68 : decode b_M_place 68 = .ok (.ifCond .ne 10, 3) := by decide +kernel
theorem d_M_place_71 : decode b_M_place 71 = .ok (.aload_n 0, 1) := by decide +kernel
theorem d_M_place_72 : decode b_M_place 72 = .ok (.getfield 53, 3) := by decide +kernel
theorem d_M_place_75 : decode b_M_place 75 = .ok (.goto 7, 3) := by decide +kernel
theorem d_M_place_78 : decode b_M_place 78 = .ok (.aload_n 0, 1) := by decide +kernel
theorem d_M_place_79 : decode b_M_place 79 = .ok (.getfield 56, 3) := by decide +kernel
theorem d_M_place_82 : decode b_M_place 82 = .ok (.iload_n 2, 1) := by decide +kernel
theorem d_M_place_83 : decode b_M_place 83 = .ok (.aload_n 0, 1) := by decide +kernel
theorem d_M_place_84 : decode b_M_place 84 = .ok (.getfield 50, 3) := by decide +kernel
theorem d_M_place_87 : decode b_M_place 87 = .ok (.iload_n 1, 1) := by decide +kernel
theorem d_M_place_88 : decode b_M_place 88 = .ok (.iaload, 1) := by decide +kernel
theorem d_M_place_89 : decode b_M_place 89 = .ok (.ifCond .ne 7, 3) := by decide +kernel
theorem d_M_place_92 : decode b_M_place 92 = .ok (.iconst 1, 1) := by decide +kernel
theorem d_M_place_93 : decode b_M_place 93 = .ok (.goto 4, 3) := by decide +kernel
theorem d_M_place_96 : decode b_M_place 96 = .ok (.iconst 0, 1) := by decide +kernel
theorem d_M_place_97 : decode b_M_place 97 = .ok (.invokestatic 196, 3) := by decide +kernel
theorem d_M_place_100 : decode b_M_place 100 = .ok (.ireturn, 1) := by decide +kernel
theorem d_M_near_0 : decode b_M_near 0 = .ok (.aload_n 0, 1) := by decide +kernel
theorem d_M_near_1 : decode b_M_near 1 = .ok (.aload_n 0, 1) := by decide +kernel
theorem d_M_near_2 : decode b_M_near 2 = .ok (.getfield 89, 3) := by decide +kernel
theorem d_M_near_5 : decode b_M_near 5 = .ok (.ifCond .ne 7, 3) := by decide +kernel
theorem d_M_near_8 : decode b_M_near 8 = .ok (.iconst 1, 1) := by decide +kernel
theorem d_M_near_9 : decode b_M_near 9 = .ok (.goto 46, 3) := by decide +kernel
theorem d_M_near_12 : decode b_M_near 12 = .ok (.iload_n 1, 1) := by decide +kernel
theorem d_M_near_13 : decode b_M_near 13 = .ok (.iconst 0, 1) := by decide +kernel
theorem d_M_near_14 : decode b_M_near 14 = .ok (.aload_n 0, 1) := by decide +kernel
theorem d_M_near_15 : decode b_M_near 15 = .ok (.getfield 226, 3) := by decide +kernel
theorem d_M_near_18 : decode b_M_near 18 = .ok (.iconst 1, 1) := by decide +kernel
theorem d_M_near_19 : decode b_M_near 19 = .ok (.isub, 1) := by decide +kernel
theorem d_M_near_20 : decode b_M_near 20 = .ok (.invokestatic 75, 3) := by decide +kernel
theorem d_M_near_23 : decode b_M_near 23 = .ok (.ifCond .ne 7, 3) := by decide +kernel
theorem d_M_near_26 : decode b_M_near 26 = .ok (.iconst 2, 1) := by decide +kernel
theorem d_M_near_27 : decode b_M_near 27 = .ok (.goto 28, 3) := by decide +kernel
theorem d_M_near_30 : decode b_M_near 30 = .ok (.iload_n 2, 1) := by decide +kernel
theorem d_M_near_31 : decode b_M_near 31 = .ok (.iconst 0, 1) := by decide +kernel
theorem d_M_near_32 : decode b_M_near 32 = .ok (.bipush 8, 2) := by decide +kernel
theorem d_M_near_34 : decode b_M_near 34 = .ok (.invokestatic 75, 3) := by decide +kernel
theorem d_M_near_37 : decode b_M_near 37 = .ok (.ifCond .eq 13, 3) := by decide +kernel
theorem d_M_near_40 : decode b_M_near 40 = .ok (.iload_n 3, 1) := by decide +kernel
theorem d_M_near_41 : decode b_M_near 41 = .ok (.iconst 0, 1) := by decide +kernel
theorem d_M_near_42 : decode b_M_near 42 = .ok (.bipush 64, 2) := by decide +kernel
theorem d_M_near_44 : decode b_M_near 44 = .ok (.invokestatic 75, 3) := by decide +kernel
theorem d_M_near_47 : decode b_M_near 47 = .ok (.ifCond .ne 7, 3) := by decide +kernel
theorem d_M_near_50 : decode b_M_near 50 = .ok (.iconst 3, 1) := by decide +kernel
theorem d_M_near_51 : decode b_M_near 51 = .ok (.goto 4, 3) := by decide +kernel
theorem d_M_near_54 : decode b_M_near 54 = .ok (.iconst 0, 1) := by decide +kernel
theorem d_M_near_55 : decode b_M_near 55 = .ok (.invokevirtual 96, 3) := by decide +kernel
theorem d_M_near_58 : decode b_M_near 58 = .ok (.ifCond .eq 5, 3) := by decide +kernel
theorem d_M_near_61 : decode b_M_near 61 = .ok (.iconst 0, 1) := by decide +kernel
theorem d_M_near_62 : decode b_M_near 62 = .ok (.ireturn, 1) := by decide +kernel
theorem d_M_near_63 : decode b_M_near 63 = .ok (.aload_n 0, 1) := by decide +kernel
theorem d_M_near_64 : decode b_M_near 64 = .ok (.iload_n 1, 1) := by decide +kernel
theorem d_M_near_65 : decode b_M_near 65 = .ok (.invokevirtual 229, 3) := by decide +kernel
theorem d_M_near_68 : decode b_M_near 68 = .ok (.aload_n 0, 1) := by decide +kernel
theorem d_M_near_69 : decode b_M_near 69 = .ok (.aload_n 0, 1) := by decide +kernel
theorem d_M_near_70 : decode b_M_near 70 = .ok (.getfield 44, 3) := by decide +kernel
theorem d_M_near_73 : decode b_M_near 73 = .ok (.iload_n 1, 1) := by decide +kernel
theorem d_M_near_74 : decode b_M_near 74 = .ok (.iaload, 1) := by decide +kernel
theorem d_M_near_75 : decode b_M_near 75 = .ok (.aload_n 0, 1) := by decide +kernel
theorem d_M_near_76 : decode b_M_near 76 = .ok (.getfield 47, 3) := by decide +kernel
theorem d_M_near_79 : decode b_M_near 79 = .ok (.iload_n 1, 1) := by decide +kernel
theorem d_M_near_80 : decode b_M_near 80 = .ok (.iaload, 1) := by decide +kernel
theorem d_M_near_81 : decode b_M_near 81 = .ok (.iload_n 2, 1) := by decide +kernel
theorem d_M_near_82 : decode b_M_near 82 = .ok (.aload_n 0, 1) := by decide +kernel
theorem d_M_near_83 : decode b_M_near 83 = .ok (.getfield 50, 3) := by decide +kernel
theorem d_M_near_86 : decode b_M_near 86 = .ok (.iload_n 1, 1) := by decide +kernel
theorem d_M_near_87 : decode b_M_near 87 = .ok (.iaload, 1) := by decide +kernel
theorem d_M_near_88 : decode b_M_near 88 = .ok (.ifCond .ne 7, 3) := by decide +kernel
theorem d_M_near_91 : decode b_M_near 91 = .ok (.iconst 1, 1) := by decide +kernel
theorem d_M_near_92 : decode b_M_near 92 = .ok (.goto 4, 3) := by decide +kernel
theorem d_M_near_95 : decode b_M_near 95 = .ok (.iconst 0, 1) := by decide +kernel
theorem d_M_near_96 : decode b_M_near 96 = .ok (.iload_n 3, 1) := by decide +kernel
theorem d_M_near_97 : decode b_M_near 97 = .ok (.invokevirtual 210, 3) := by decide +kernel
theorem d_M_near_100 : decode b_M_near 100 = .ok (.ireturn, 1) := by decide +kernel
theorem d_M_told_0 : decode b_M_told 0 = .ok (.aload_n 0, 1) := by decide +kernel
theorem d_M_told_1 : decode b_M_told 1 = .ok (.iconst 0, 1) := by decide +kernel
theorem d_M_told_2 : decode b_M_told 2 = .ok (.putfield 72, 3) := by decide +kernel
theorem d_M_told_5 : decode b_M_told 5 = .ok (.iconst 0, 1) := by decide +kernel
theorem d_M_told_6 : decode b_M_told 6 = .ok (.istore_n 2, 1) := by decide +kernel
theorem d_M_told_7 : decode b_M_told 7 = .ok (.iconst 0, 1) := by decide +kernel
theorem d_M_told_8 : decode b_M_told 8 = .ok (.istore_n 3, 1) := by decide +kernel
theorem d_M_told_9 : decode b_M_told 9 = .ok (.iload_n 3, 1) := by decide +kernel
theorem d_M_told_10 : decode b_M_told 10 = .ok (.sipush 256, 3) := by decide +kernel
theorem d_M_told_13 : decode b_M_told 13 = .ok (.if_icmp .ge 26, 3) := by decide +kernel
theorem d_M_told_16 : decode b_M_told 16 = .ok (.iload_n 2, 1) := by decide +kernel
theorem d_M_told_17 : decode b_M_told 17 = .ok (.aload_n 0, 1) := by decide +kernel
theorem d_M_told_18 : decode b_M_told 18 = .ok (.getfield 7, 3) := by decide +kernel
theorem d_M_told_21 : decode b_M_told 21 = .ok (.iload_n 3, 1) := by decide +kernel
theorem d_M_told_22 : decode b_M_told 22 = .ok (.iaload, 1) := by decide +kernel
theorem d_M_told_23 : decode b_M_told 23 = .ok (.ifCond .le 7, 3) := by decide +kernel
theorem d_M_told_26 : decode b_M_told 26 = .ok (.iconst 1, 1) := by decide +kernel
theorem d_M_told_27 : decode b_M_told 27 = .ok (.goto 4, 3) := by decide +kernel
theorem d_M_told_30 : decode b_M_told 30 = .ok (.iconst 0, 1) := by decide +kernel
theorem d_M_told_31 : decode b_M_told 31 = .ok (.iadd, 1) := by decide +kernel
theorem d_M_told_32 : decode b_M_told 32 = .ok (.istore_n 2, 1) := by decide +kernel
theorem d_M_told_33 : decode b_M_told 33 = .ok (.iinc 3 1, 3) := by decide +kernel
theorem d_M_told_36 : decode b_M_told 36 = .ok (.goto (-27), 3) := by decide +kernel
theorem d_M_told_39 : decode b_M_told 39 = .ok (.iload_n 1, 1) := by decide +kernel
theorem d_M_told_40 : decode b_M_told 40 = .ok (.tableswitch 109 0 6 #[44, 49, 54, 56, 61, 77, 93], 44) := by decide +kernel
theorem d_M_told_84 : decode b_M_told 84 = .ok (.aload_n 0, 1) := by decide +kernel
theorem d_M_told_85 : decode b_M_told 85 = .ok (.getfield 65, 3) := by decide +kernel
theorem d_M_told_88 : decode b_M_told 88 = .ok (.ireturn, 1) := by decide +kernel
theorem d_M_told_89 : decode b_M_told 89 = .ok (.aload_n 0, 1) := by decide +kernel
theorem d_M_told_90 : decode b_M_told 90 = .ok (.getfield 69, 3) := by decide +kernel
theorem d_M_told_93 : decode b_M_told 93 = .ok (.ireturn, 1) := by decide +kernel
theorem d_M_told_94 : decode b_M_told 94 = .ok (.iload_n 2, 1) := by decide +kernel
theorem d_M_told_95 : decode b_M_told 95 = .ok (.ireturn, 1) := by decide +kernel
theorem d_M_told_96 : decode b_M_told 96 = .ok (.aload_n 0, 1) := by decide +kernel
theorem d_M_told_97 : decode b_M_told 97 = .ok (.getfield 83, 3) := by decide +kernel
theorem d_M_told_100 : decode b_M_told 100 = .ok (.ireturn, 1) := by decide +kernel
theorem d_M_told_101 : decode b_M_told 101 = .ok (.aload_n 0, 1) := by decide +kernel
theorem d_M_told_102 : decode b_M_told 102 = .ok (.getfield 86, 3) := by decide +kernel
theorem d_M_told_105 : decode b_M_told 105 = .ok (.ifCond .eq 10, 3) := by decide +kernel
theorem d_M_told_108 : decode b_M_told 108 = .ok (.aload_n 0, 1) := by decide +kernel
theorem d_M_told_109 : decode b_M_told 109 = .ok (.getfield 164, 3) := by decide +kernel
theorem d_M_told_112 : decode b_M_told 112 = .ok (.goto 4, 3) := by decide +kernel
theorem d_M_told_115 : decode b_M_told 115 = .ok (.iconst 0, 1) := by decide +kernel
theorem d_M_told_116 : decode b_M_told 116 = .ok (.ireturn, 1) := by decide +kernel
theorem d_M_told_117 : decode b_M_told 117 = .ok (.aload_n 0, 1) := by decide +kernel
theorem d_M_told_118 : decode b_M_told 118 = .ok (.getfield 86, 3) := by decide +kernel
theorem d_M_told_121 : decode b_M_told 121 = .ok (.ifCond .eq 10, 3) := by decide +kernel
theorem d_M_told_124 : decode b_M_told 124 = .ok (.aload_n 0, 1) := by decide +kernel
theorem d_M_told_125 : decode b_M_told 125 = .ok (.getfield 174, 3) := by decide +kernel
theorem d_M_told_128 : decode b_M_told 128 = .ok (.goto 4, 3) := by decide +kernel
theorem d_M_told_131 : decode b_M_told 131 = .ok (.iconst 0, 1) := by decide +kernel
theorem d_M_told_132 : decode b_M_told 132 = .ok (.ireturn, 1) := by decide +kernel
theorem d_M_told_133 : decode b_M_told 133 = .ok (.aload_n 0, 1) := by decide +kernel
theorem d_M_told_134 : decode b_M_told 134 = .ok (.getfield 89, 3) := by decide +kernel
theorem d_M_told_137 : decode b_M_told 137 = .ok (.ifCond .eq 10, 3) := by decide +kernel
theorem d_M_told_140 : decode b_M_told 140 = .ok (.aload_n 0, 1) := by decide +kernel
theorem d_M_told_141 : decode b_M_told 141 = .ok (.getfield 226, 3) := by decide +kernel
theorem d_M_told_144 : decode b_M_told 144 = .ok (.goto 4, 3) := by decide +kernel
theorem d_M_told_147 : decode b_M_told 147 = .ok (.iconst 0, 1) := by decide +kernel
theorem d_M_told_148 : decode b_M_told 148 = .ok (.ireturn, 1) := by decide +kernel
theorem d_M_told_149 : decode b_M_told 149 = .ok (.iconst (-1), 1) := by decide +kernel
theorem d_M_told_150 : decode b_M_told 150 = .ok (.ireturn, 1) := by decide +kernel
theorem d_M_clear_0 : decode b_M_clear 0 = .ok (.aload_n 0, 1) := by decide +kernel
theorem d_M_clear_1 : decode b_M_clear 1 = .ok (.iconst 0, 1) := by decide +kernel
theorem d_M_clear_2 : decode b_M_clear 2 = .ok (.putfield 72, 3) := by decide +kernel
theorem d_M_clear_5 : decode b_M_clear 5 = .ok (.iconst 0, 1) := by decide +kernel
theorem d_M_clear_6 : decode b_M_clear 6 = .ok (.istore_n 1, 1) := by decide +kernel
theorem d_M_clear_7 : decode b_M_clear 7 = .ok (.iload_n 1, 1) := by decide +kernel
theorem d_M_clear_8 : decode b_M_clear 8 = .ok (.sipush 256, 3) := by decide +kernel
theorem d_M_clear_11 : decode b_M_clear 11 = .ok (.if_icmp .ge 16, 3) := by decide +kernel
theorem d_M_clear_14 : decode b_M_clear 14 = .ok (.aload_n 0, 1) := by decide +kernel
theorem d_M_clear_15 : decode b_M_clear 15 = .ok (.getfield 7, 3) := by decide +kernel
theorem d_M_clear_18 : decode b_M_clear 18 = .ok (.iload_n 1, 1) := by decide +kernel
theorem d_M_clear_19 : decode b_M_clear 19 = .ok (.iconst 0, 1) := by decide +kernel
theorem d_M_clear_20 : decode b_M_clear 20 = .ok (.iastore, 1) := by decide +kernel
theorem d_M_clear_21 : decode b_M_clear 21 = .ok (.iinc 1 1, 3) := by decide +kernel
theorem d_M_clear_24 : decode b_M_clear 24 = .ok (.goto (-17), 3) := by decide +kernel
theorem d_M_clear_27 : decode b_M_clear 27 = .ok (.aload_n 0, 1) := by decide +kernel
theorem d_M_clear_28 : decode b_M_clear 28 = .ok (.invokevirtual 100, 3) := by decide +kernel
theorem d_M_clear_31 : decode b_M_clear 31 = .ok (.return_, 1) := by decide +kernel
theorem d_P_init_0 : decode b_P_init 0 = .ok (.aload_n 0, 1) := by decide +kernel
theorem d_P_init_1 : decode b_P_init 1 = .ok (.invokespecial 1, 3) := by decide +kernel
theorem d_P_init_4 : decode b_P_init 4 = .ok (.aload_n 0, 1) := by decide +kernel
theorem d_P_init_5 : decode b_P_init 5 = .ok (.iconst 1, 1) := by decide +kernel
theorem d_P_init_6 : decode b_P_init 6 = .ok (.bipush 16, 2) := by decide +kernel
theorem d_P_init_8 : decode b_P_init 8 = .ok (.iload_n 1, 1) := by decide +kernel
theorem d_P_init_9 : decode b_P_init 9 = .ok (.invokestatic 9, 3) := by decide +kernel
theorem d_P_init_12 : decode b_P_init 12 = .ok (.invokestatic 15, 3) := by decide +kernel
theorem d_P_init_15 : decode b_P_init 15 = .ok (.putfield 18, 3) := by decide +kernel
theorem d_P_init_18 : decode b_P_init 18 = .ok (.aload_n 0, 1) := by decide +kernel
theorem d_P_init_19 : decode b_P_init 19 = .ok (.iconst 1, 1) := by decide +kernel
theorem d_P_init_20 : decode b_P_init 20 = .ok (.bipush 16, 2) := by decide +kernel
theorem d_P_init_22 : decode b_P_init 22 = .ok (.iload_n 2, 1) := by decide +kernel
theorem d_P_init_23 : decode b_P_init 23 = .ok (.invokestatic 9, 3) := by decide +kernel
theorem d_P_init_26 : decode b_P_init 26 = .ok (.invokestatic 15, 3) := by decide +kernel
theorem d_P_init_29 : decode b_P_init 29 = .ok (.putfield 22, 3) := by decide +kernel
theorem d_P_init_32 : decode b_P_init 32 = .ok (.aload_n 0, 1) := by decide +kernel
theorem d_P_init_33 : decode b_P_init 33 = .ok (.aload_n 0, 1) := by decide +kernel
theorem d_P_init_34 : decode b_P_init 34 = .ok (.getfield 18, 3) := by decide +kernel
theorem d_P_init_37 : decode b_P_init 37 = .ok (.aload_n 0, 1) := by decide +kernel
theorem d_P_init_38 : decode b_P_init 38 = .ok (.getfield 22, 3) := by decide +kernel
theorem d_P_init_41 : decode b_P_init 41 = .ok (.imul, 1) := by decide +kernel
theorem d_P_init_42 : decode b_P_init 42 = .ok (.newarray .byte, 2) := by decide +kernel
theorem d_P_init_44 : decode b_P_init 44 = .ok (.putfield 25, 3) := by decide +kernel
theorem d_P_init_47 : decode b_P_init 47 = .ok (.return_, 1) := by decide +kernel
theorem d_U_init_0 : decode b_U_init 0 = .ok (.aload_n 0, 1) := by decide +kernel
theorem d_U_init_1 : decode b_U_init 1 = .ok (.invokespecial 3, 3) := by decide +kernel
theorem d_U_init_4 : decode b_U_init 4 = .ok (.aload_n 0, 1) := by decide +kernel
theorem d_U_init_5 : decode b_U_init 5 = .ok (.aload_n 1, 1) := by decide +kernel
theorem d_U_init_6 : decode b_U_init 6 = .ok (.putfield 9, 3) := by decide +kernel
theorem d_U_init_9 : decode b_U_init 9 = .ok (.bipush 7, 2) := by decide +kernel
theorem d_U_init_11 : decode b_U_init 11 = .ok (.aload_n 1, 1) := by decide +kernel
theorem d_U_init_12 : decode b_U_init 12 = .ok (.invokevirtual 15, 3) := by decide +kernel
theorem d_U_init_15 : decode b_U_init 15 = .ok (.imul, 1) := by decide +kernel
theorem d_U_init_16 : decode b_U_init 16 = .ok (.istore_n 2, 1) := by decide +kernel
theorem d_U_init_17 : decode b_U_init 17 = .ok (.iload_n 2, 1) := by decide +kernel
theorem d_U_init_18 : decode b_U_init 18 = .ok (.iconst 4, 1) := by decide +kernel
theorem d_U_init_19 : decode b_U_init 19 = .ok (.idiv, 1) := by decide +kernel
theorem d_U_init_20 : decode b_U_init 20 = .ok (.istore_n 3, 1) := by decide +kernel
theorem d_U_init_21 : decode b_U_init 21 = .ok (.aload_n 0, 1) := by decide +kernel
theorem d_U_init_22 : decode b_U_init 22 = .ok (.iload_n 2, 1) := by decide +kernel
theorem d_U_init_23 : decode b_U_init 23 = .ok (.newarray .byte, 2) := by decide +kernel
theorem d_U_init_25 : decode b_U_init 25 = .ok (.putfield 21, 3) := by decide +kernel
theorem d_U_init_28 : decode b_U_init 28 = .ok (.aload_n 0, 1) := by decide +kernel
theorem d_U_init_29 : decode b_U_init 29 = .ok (.iload_n 2, 1) := by decide +kernel
theorem d_U_init_30 : decode b_U_init 30 = .ok (.newarray .byte, 2) := by decide +kernel
theorem d_U_init_32 : decode b_U_init 32 = .ok (.putfield 25, 3) := by decide +kernel
theorem d_U_init_35 : decode b_U_init 35 = .ok (.aload_n 0, 1) := by decide +kernel
theorem d_U_init_36 : decode b_U_init 36 = .ok (.iload_n 3, 1) := by decide +kernel
theorem d_U_init_37 : decode b_U_init 37 = .ok (.iconst 1, 1) := by decide +kernel
theorem d_U_init_38 : decode b_U_init 38 = .ok (.iadd, 1) := by decide +kernel
theorem d_U_init_39 : decode b_U_init 39 = .ok (.newarray .int, 2) := by decide +kernel
theorem d_U_init_41 : decode b_U_init 41 = .ok (.putfield 28, 3) := by decide +kernel
theorem d_U_init_44 : decode b_U_init 44 = .ok (.aload_n 0, 1) := by decide +kernel
theorem d_U_init_45 : decode b_U_init 45 = .ok (.iload_n 3, 1) := by decide +kernel
theorem d_U_init_46 : decode b_U_init 46 = .ok (.newarray .byte, 2) := by decide +kernel
theorem d_U_init_48 : decode b_U_init 48 = .ok (.putfield 32, 3) := by decide +kernel
theorem d_U_init_51 : decode b_U_init 51 = .ok (.aload_n 0, 1) := by decide +kernel
theorem d_U_init_52 : decode b_U_init 52 = .ok (.iload_n 3, 1) := by decide +kernel
theorem d_U_init_53 : decode b_U_init 53 = .ok (.newarray .int, 2) := by decide +kernel
theorem d_U_init_55 : decode b_U_init 55 = .ok (.putfield 35, 3) := by decide +kernel
theorem d_U_init_58 : decode b_U_init 58 = .ok (.aload_n 0, 1) := by decide +kernel
theorem d_U_init_59 : decode b_U_init 59 = .ok (.aload_n 1, 1) := by decide +kernel
theorem d_U_init_60 : decode b_U_init 60 = .ok (.getfield 38, 3) := by decide +kernel
theorem d_U_init_63 : decode b_U_init 63 = .ok (.aload_n 1, 1) := by decide +kernel
theorem d_U_init_64 : decode b_U_init 64 = .ok (.getfield 42, 3) := by decide +kernel
theorem d_U_init_67 : decode b_U_init 67 = .ok (.imul, 1) := by decide +kernel
theorem d_U_init_68 : decode b_U_init 68 = .ok (.newarray .byte, 2) := by decide +kernel
theorem d_U_init_70 : decode b_U_init 70 = .ok (.putfield 45, 3) := by decide +kernel
theorem d_U_init_73 : decode b_U_init 73 = .ok (.return_, 1) := by decide +kernel
theorem d_G_init_0 : decode b_G_init 0 = .ok (.aload_n 0, 1) := by decide +kernel
theorem d_G_init_1 : decode b_G_init 1 = .ok (.invokespecial 3, 3) := by decide +kernel
theorem d_G_init_4 : decode b_G_init 4 = .ok (.aload_n 0, 1) := by decide +kernel
theorem d_G_init_5 : decode b_G_init 5 = .ok (.aload_n 1, 1) := by decide +kernel
theorem d_G_init_6 : decode b_G_init 6 = .ok (.putfield 9, 3) := by decide +kernel
theorem d_G_init_9 : decode b_G_init 9 = .ok (.aload_n 0, 1) := by decide +kernel
theorem d_G_init_10 : decode b_G_init 10 = .ok (.iload_n 2, 1) := by decide +kernel
theorem d_G_init_11 : decode b_G_init 11 = .ok (.bipush 24, 2) := by decide +kernel
theorem d_G_init_13 : decode b_G_init 13 = .ok (.imul, 1) := by decide +kernel
theorem d_G_init_14 : decode b_G_init 14 = .ok (.newarray .int, 2) := by decide +kernel
theorem d_G_init_16 : decode b_G_init 16 = .ok (.putfield 15, 3) := by decide +kernel
theorem d_G_init_19 : decode b_G_init 19 = .ok (.aload_n 0, 1) := by decide +kernel
theorem d_G_init_20 : decode b_G_init 20 = .ok (.iload_n 2, 1) := by decide +kernel
theorem d_G_init_21 : decode b_G_init 21 = .ok (.newarray .int, 2) := by decide +kernel
theorem d_G_init_23 : decode b_G_init 23 = .ok (.putfield 19, 3) := by decide +kernel
theorem d_G_init_26 : decode b_G_init 26 = .ok (.aload_n 0, 1) := by decide +kernel
theorem d_G_init_27 : decode b_G_init 27 = .ok (.iload_n 2, 1) := by decide +kernel
theorem d_G_init_28 : decode b_G_init 28 = .ok (.newarray .int, 2) := by decide +kernel
theorem d_G_init_30 : decode b_G_init 30 = .ok (.putfield 22, 3) := by decide +kernel
theorem d_G_init_33 : decode b_G_init 33 = .ok (.aload_n 0, 1) := by decide +kernel
theorem d_G_init_34 : decode b_G_init 34 = .ok (.iload_n 2, 1) := by decide +kernel
theorem d_G_init_35 : decode b_G_init 35 = .ok (.newarray .int, 2) := by decide +kernel
theorem d_G_init_37 : decode b_G_init 37 = .ok (.putfield 25, 3) := by decide +kernel
theorem d_G_init_40 : decode b_G_init 40 = .ok (.aload_n 0, 1) := by decide +kernel
theorem d_G_init_41 : decode b_G_init 41 = .ok (.iload_n 2, 1) := by decide +kernel
theorem d_G_init_42 : decode b_G_init 42 = .ok (.newarray .int, 2) := by decide +kernel
theorem d_G_init_44 : decode b_G_init 44 = .ok (.putfield 28, 3) := by decide +kernel
theorem d_G_init_47 : decode b_G_init 47 = .ok (.aload_n 0, 1) := by decide +kernel
theorem d_G_init_48 : decode b_G_init 48 = .ok (.iload_n 2, 1) := by decide +kernel
theorem d_G_init_49 : decode b_G_init 49 = .ok (.newarray .int, 2) := by decide +kernel
theorem d_G_init_51 : decode b_G_init 51 = .ok (.putfield 31, 3) := by decide +kernel
theorem d_G_init_54 : decode b_G_init 54 = .ok (.aload_n 0, 1) := by decide +kernel
theorem d_G_init_55 : decode b_G_init 55 = .ok (.iload_n 2, 1) := by decide +kernel
theorem d_G_init_56 : decode b_G_init 56 = .ok (.newarray .int, 2) := by decide +kernel
theorem d_G_init_58 : decode b_G_init 58 = .ok (.putfield 34, 3) := by decide +kernel
theorem d_G_init_61 : decode b_G_init 61 = .ok (.aload_n 0, 1) := by decide +kernel
theorem d_G_init_62 : decode b_G_init 62 = .ok (.iload_n 2, 1) := by decide +kernel
theorem d_G_init_63 : decode b_G_init 63 = .ok (.newarray .int, 2) := by decide +kernel
theorem d_G_init_65 : decode b_G_init 65 = .ok (.putfield 37, 3) := by decide +kernel
theorem d_G_init_68 : decode b_G_init 68 = .ok (.return_, 1) := by decide +kernel
theorem d_C_init_0 : decode b_C_init 0 = .ok (.aload_n 0, 1) := by decide +kernel
theorem d_C_init_1 : decode b_C_init 1 = .ok (.invokespecial 5, 3) := by decide +kernel
theorem d_C_init_4 : decode b_C_init 4 = .ok (.aload_n 0, 1) := by decide +kernel
theorem d_C_init_5 : decode b_C_init 5 = .ok (.iconst 4, 1) := by decide +kernel
theorem d_C_init_6 : decode b_C_init 6 = .ok (.newarray .int, 2) := by decide +kernel
theorem d_C_init_8 : decode b_C_init 8 = .ok (.putfield 11, 3) := by decide +kernel
theorem d_C_init_11 : decode b_C_init 11 = .ok (.aload_n 0, 1) := by decide +kernel
theorem d_C_init_12 : decode b_C_init 12 = .ok (.iconst 4, 1) := by decide +kernel
theorem d_C_init_13 : decode b_C_init 13 = .ok (.newarray .int, 2) := by decide +kernel
theorem d_C_init_15 : decode b_C_init 15 = .ok (.putfield 15, 3) := by decide +kernel
theorem d_C_init_18 : decode b_C_init 18 = .ok (.aload_n 0, 1) := by decide +kernel
theorem d_C_init_19 : decode b_C_init 19 = .ok (.aload_n 1, 1) := by decide +kernel
theorem d_C_init_20 : decode b_C_init 20 = .ok (.putfield 18, 3) := by decide +kernel
theorem d_C_init_23 : decode b_C_init 23 = .ok (.aload_n 0, 1) := by decide +kernel
theorem d_C_init_24 : decode b_C_init 24 = .ok (.iload_n 2, 1) := by decide +kernel
theorem d_C_init_25 : decode b_C_init 25 = .ok (.iconst 1, 1) := by decide +kernel
theorem d_C_init_26 : decode b_C_init 26 = .ok (.iadd, 1) := by decide +kernel
theorem d_C_init_27 : decode b_C_init 27 = .ok (.newarray .int, 2) := by decide +kernel
theorem d_C_init_29 : decode b_C_init 29 = .ok (.putfield 22, 3) := by decide +kernel
theorem d_C_init_32 : decode b_C_init 32 = .ok (.aload_n 0, 1) := by decide +kernel
theorem d_C_init_33 : decode b_C_init 33 = .ok (.iload_n 2, 1) := by decide +kernel
theorem d_C_init_34 : decode b_C_init 34 = .ok (.newarray .int, 2) := by decide +kernel
theorem d_C_init_36 : decode b_C_init 36 = .ok (.putfield 25, 3) := by decide +kernel
theorem d_C_init_39 : decode b_C_init 39 = .ok (.aload_n 0, 1) := by decide +kernel
theorem d_C_init_40 : decode b_C_init 40 = .ok (.iload_n 2, 1) := by decide +kernel
theorem d_C_init_41 : decode b_C_init 41 = .ok (.newarray .int, 2) := by decide +kernel
theorem d_C_init_43 : decode b_C_init 43 = .ok (.putfield 28, 3) := by decide +kernel
theorem d_C_init_46 : decode b_C_init 46 = .ok (.aload_n 0, 1) := by decide +kernel
theorem d_C_init_47 : decode b_C_init 47 = .ok (.iload_n 2, 1) := by decide +kernel
theorem d_C_init_48 : decode b_C_init 48 = .ok (.newarray .int, 2) := by decide +kernel
theorem d_C_init_50 : decode b_C_init 50 = .ok (.putfield 31, 3) := by decide +kernel
theorem d_C_init_53 : decode b_C_init 53 = .ok (.aload_n 0, 1) := by decide +kernel
theorem d_C_init_54 : decode b_C_init 54 = .ok (.iload_n 2, 1) := by decide +kernel
theorem d_C_init_55 : decode b_C_init 55 = .ok (.newarray .int, 2) := by decide +kernel
theorem d_C_init_57 : decode b_C_init 57 = .ok (.putfield 34, 3) := by decide +kernel
theorem d_C_init_60 : decode b_C_init 60 = .ok (.aload_n 0, 1) := by decide +kernel
theorem d_C_init_61 : decode b_C_init 61 = .ok (.iload_n 2, 1) := by decide +kernel
theorem d_C_init_62 : decode b_C_init 62 = .ok (.newarray .int, 2) := by decide +kernel
theorem d_C_init_64 : decode b_C_init 64 = .ok (.putfield 37, 3) := by decide +kernel
theorem d_C_init_67 : decode b_C_init 67 = .ok (.return_, 1) := by decide +kernel
theorem d_O_init_0 : decode b_O_init 0 = .ok (.aload_n 0, 1) := by decide +kernel
theorem d_O_init_1 : decode b_O_init 1 = .ok (.invokespecial 1, 3) := by decide +kernel
theorem d_O_init_4 : decode b_O_init 4 = .ok (.aload_n 0, 1) := by decide +kernel
theorem d_O_init_5 : decode b_O_init 5 = .ok (.new 7, 3) := by decide +kernel
theorem d_O_init_8 : decode b_O_init 8 = .ok (.dup, 1) := by decide +kernel
theorem d_O_init_9 : decode b_O_init 9 = .ok (.iload_n 1, 1) := by decide +kernel
theorem d_O_init_10 : decode b_O_init 10 = .ok (.iload_n 2, 1) := by decide +kernel
theorem d_O_init_11 : decode b_O_init 11 = .ok (.invokespecial 9, 3) := by decide +kernel
theorem d_O_init_14 : decode b_O_init 14 = .ok (.putfield 12, 3) := by decide +kernel
theorem d_O_init_17 : decode b_O_init 17 = .ok (.aload_n 0, 1) := by decide +kernel
theorem d_O_init_18 : decode b_O_init 18 = .ok (.new 18, 3) := by decide +kernel
theorem d_O_init_21 : decode b_O_init 21 = .ok (.dup, 1) := by decide +kernel
theorem d_O_init_22 : decode b_O_init 22 = .ok (.aload_n 0, 1) := by decide +kernel
theorem d_O_init_23 : decode b_O_init 23 = .ok (.getfield 12, 3) := by decide +kernel
theorem d_O_init_26 : decode b_O_init 26 = .ok (.invokespecial 20, 3) := by decide +kernel
theorem d_O_init_29 : decode b_O_init 29 = .ok (.putfield 23, 3) := by decide +kernel
theorem d_O_init_32 : decode b_O_init 32 = .ok (.aload_n 0, 1) := by decide +kernel
theorem d_O_init_33 : decode b_O_init 33 = .ok (.new 27, 3) := by decide +kernel
theorem d_O_init_36 : decode b_O_init 36 = .ok (.dup, 1) := by decide +kernel
theorem d_O_init_37 : decode b_O_init 37 = .ok (.aload_n 0, 1) := by decide +kernel
theorem d_O_init_38 : decode b_O_init 38 = .ok (.getfield 23, 3) := by decide +kernel
theorem d_O_init_41 : decode b_O_init 41 = .ok (.aload_n 0, 1) := by decide +kernel
theorem d_O_init_42 : decode b_O_init 42 = .ok (.getfield 12, 3) := by decide +kernel
theorem d_O_init_45 : decode b_O_init 45 = .ok (.invokevirtual 29, 3) := by decide +kernel
theorem d_O_init_48 : decode b_O_init 48 = .ok (.invokespecial 33, 3) := by decide +kernel
theorem d_O_init_51 : decode b_O_init 51 = .ok (.putfield 36, 3) := by decide +kernel
theorem d_O_init_54 : decode b_O_init 54 = .ok (.aload_n 0, 1) := by decide +kernel
theorem d_O_init_55 : decode b_O_init 55 = .ok (.new 40, 3) := by decide +kernel
theorem d_O_init_58 : decode b_O_init 58 = .ok (.dup, 1) := by decide +kernel
theorem d_O_init_59 : decode b_O_init 59 = .ok (.aload_n 0, 1) := by decide +kernel
theorem d_O_init_60 : decode b_O_init 60 = .ok (.getfield 36, 3) := by decide +kernel
theorem d_O_init_63 : decode b_O_init 63 = .ok (.aload_n 0, 1) := by decide +kernel
theorem d_O_init_64 : decode b_O_init 64 = .ok (.getfield 12, 3) := by decide +kernel
theorem d_O_init_67 : decode b_O_init 67 = .ok (.invokevirtual 29, 3) := by decide +kernel
theorem d_O_init_70 : decode b_O_init 70 = .ok (.invokespecial 42, 3) := by decide +kernel
theorem d_O_init_73 : decode b_O_init 73 = .ok (.putfield 45, 3) := by decide +kernel
theorem d_O_init_76 : decode b_O_init 76 = .ok (.return_, 1) := by decide +kernel
theorem d_M_init_0 : decode b_M_init 0 = .ok (.aload_n 0, 1) := by decide +kernel
theorem d_M_init_1 : decode b_M_init 1 = .ok (.invokespecial 1, 3) := by decide +kernel
theorem d_M_init_4 : decode b_M_init 4 = .ok (.aload_n 0, 1) := by decide +kernel
theorem d_M_init_5 : decode b_M_init 5 = .ok (.sipush 256, 3) := by decide +kernel
theorem d_M_init_8 : decode b_M_init 8 = .ok (.newarray .int, 2) := by decide +kernel
theorem d_M_init_10 : decode b_M_init 10 = .ok (.putfield 7, 3) := by decide +kernel
theorem d_M_init_13 : decode b_M_init 13 = .ok (.aload_n 0, 1) := by decide +kernel
theorem d_M_init_14 : decode b_M_init 14 = .ok (.sipush 900, 3) := by decide +kernel
theorem d_M_init_17 : decode b_M_init 17 = .ok (.newarray .int, 2) := by decide +kernel
theorem d_M_init_19 : decode b_M_init 19 = .ok (.putfield 13, 3) := by decide +kernel
theorem d_M_init_22 : decode b_M_init 22 = .ok (.aload_n 0, 1) := by decide +kernel
theorem d_M_init_23 : decode b_M_init 23 = .ok (.sipush 900, 3) := by decide +kernel
theorem d_M_init_26 : decode b_M_init 26 = .ok (.newarray .int, 2) := by decide +kernel
theorem d_M_init_28 : decode b_M_init 28 = .ok (.putfield 16, 3) := by decide +kernel
theorem d_M_init_31 : decode b_M_init 31 = .ok (.aload_n 0, 1) := by decide +kernel
theorem d_M_init_32 : decode b_M_init 32 = .ok (.sipush 900, 3) := by decide +kernel
theorem d_M_init_35 : decode b_M_init 35 = .ok (.newarray .int, 2) := by decide +kernel
theorem d_M_init_37 : decode b_M_init 37 = .ok (.putfield 19, 3) := by decide +kernel
theorem d_M_init_40 : decode b_M_init 40 = .ok (.aload_n 0, 1) := by decide +kernel
theorem d_M_init_41 : decode b_M_init 41 = .ok (.sipush 900, 3) := by decide +kernel
theorem d_M_init_44 : decode b_M_init 44 = .ok (.newarray .int, 2) := by decide +kernel
theorem d_M_init_46 : decode b_M_init 46 = .ok (.putfield 22, 3) := by decide +kernel
theorem d_M_init_49 : decode b_M_init 49 = .ok (.aload_n 0, 1) := by decide +kernel
theorem d_M_init_50 : decode b_M_init 50 = .ok (.sipush 3600, 3) := by decide +kernel
theorem d_M_init_53 : decode b_M_init 53 = .ok (.newarray .int, 2) := by decide +kernel
theorem d_M_init_55 : decode b_M_init 55 = .ok (.putfield 25, 3) := by decide +kernel
theorem d_M_init_58 : decode b_M_init 58 = .ok (.aload_n 0, 1) := by decide +kernel
theorem d_M_init_59 : decode b_M_init 59 = .ok (.sipush 3600, 3) := by decide +kernel
theorem d_M_init_62 : decode b_M_init 62 = .ok (.newarray .int, 2) := by decide +kernel
