theorem d_M_turnsLeft_60 : decode b_M_turnsLeft 60 = .ok (.iload 5, 2) := by decide +kernel
theorem d_M_turnsLeft_62 : decode b_M_turnsLeft 62 = .ok (.aload_n 0, 1) := by decide +kernel
theorem d_M_turnsLeft_63 : decode b_M_turnsLeft 63 = .ok (.iload_n 1, 1) := by decide +kernel
theorem d_M_turnsLeft_64 : decode b_M_turnsLeft 64 = .ok (.iload_n 2, 1) := by decide +kernel
theorem d_M_turnsLeft_65 : decode b_M_turnsLeft 65 = .ok (.iload 7, 2) := by decide +kernel
theorem d_M_turnsLeft_67 : decode b_M_turnsLeft 67 = .ok (.iadd, 1) := by decide +kernel
theorem d_M_turnsLeft_68 : decode b_M_turnsLeft 68 = .ok (.iload_n 3, 1) := by decide +kernel
theorem d_M_turnsLeft_69 : decode b_M_turnsLeft 69 = .ok (.iload 6, 2) := by decide +kernel
theorem d_M_turnsLeft_71 : decode b_M_turnsLeft 71 = .ok (.iadd, 1) := by decide +kernel
theorem d_M_turnsLeft_72 : decode b_M_turnsLeft 72 = .ok (.invokevirtual 103, 3) := by decide +kernel
theorem d_M_turnsLeft_75 : decode b_M_turnsLeft 75 = .ok (.ifCond .eq 7, 3) := by decide +kernel
theorem d_M_turnsLeft_78 : decode b_M_turnsLeft 78 = .ok (.iconst 1, 1) := by decide +kernel
theorem d_M_turnsLeft_79 : decode b_M_turnsLeft 79 = .ok (.goto 4, 3) := by decide +kernel
theorem d_M_turnsLeft_82 : decode b_M_turnsLeft 82 = .ok (.iconst 0, 1) := by decide +kernel
theorem d_M_turnsLeft_83 : decode b_M_turnsLeft 83 = .ok (.iadd, 1) := by decide +kernel
theorem d_M_turnsLeft_84 : decode b_M_turnsLeft 84 = .ok (.istore 5, 2) := by decide +kernel
theorem d_M_turnsLeft_86 : decode b_M_turnsLeft 86 = .ok (.iinc 7 1, 3) := by decide +kernel
theorem d_M_turnsLeft_89 : decode b_M_turnsLeft 89 = .ok (.goto (-35), 3) := by decide +kernel
theorem d_M_turnsLeft_92 : decode b_M_turnsLeft 92 = .ok (.iinc 6 1, 3) := by decide +kernel
theorem d_M_turnsLeft_95 : decode b_M_turnsLeft 95 = .ok (.goto (-51), 3) := by decide +kernel
theorem d_M_turnsLeft_98 : decode b_M_turnsLeft 98 = .ok (.iload 5, 2) := by decide +kernel
theorem d_M_turnsLeft_100 : decode b_M_turnsLeft 100 = .ok (.bipush 8, 2) := by decide +kernel
theorem d_M_turnsLeft_102 : decode b_M_turnsLeft 102 = .ok (.if_icmp .gt 7, 3) := by decide +kernel
theorem d_M_turnsLeft_105 : decode b_M_turnsLeft 105 = .ok (.iconst 1, 1) := by decide +kernel
theorem d_M_turnsLeft_106 : decode b_M_turnsLeft 106 = .ok (.goto 4, 3) := by decide +kernel
theorem d_M_turnsLeft_109 : decode b_M_turnsLeft 109 = .ok (.iconst 0, 1) := by decide +kernel
theorem d_M_turnsLeft_110 : decode b_M_turnsLeft 110 = .ok (.ireturn, 1) := by decide +kernel
theorem d_M_next_0 : decode b_M_next 0 = .ok (.aload_n 0, 1) := by decide +kernel
theorem d_M_next_1 : decode b_M_next 1 = .ok (.iload_n 1, 1) := by decide +kernel
theorem d_M_next_2 : decode b_M_next 2 = .ok (.iload_n 2, 1) := by decide +kernel
theorem d_M_next_3 : decode b_M_next 3 = .ok (.iload_n 3, 1) := by decide +kernel
theorem d_M_next_4 : decode b_M_next 4 = .ok (.iload 4, 2) := by decide +kernel
theorem d_M_next_6 : decode b_M_next 6 = .ok (.iconst 1, 1) := by decide +kernel
theorem d_M_next_7 : decode b_M_next 7 = .ok (.invokevirtual 106, 3) := by decide +kernel
theorem d_M_next_10 : decode b_M_next 10 = .ok (.istore 6, 2) := by decide +kernel
theorem d_M_next_12 : decode b_M_next 12 = .ok (.aload_n 0, 1) := by decide +kernel
theorem d_M_next_13 : decode b_M_next 13 = .ok (.iload_n 1, 1) := by decide +kernel
theorem d_M_next_14 : decode b_M_next 14 = .ok (.iload_n 2, 1) := by decide +kernel
theorem d_M_next_15 : decode b_M_next 15 = .ok (.iload_n 3, 1) := by decide +kernel
theorem d_M_next_16 : decode b_M_next 16 = .ok (.iload 4, 2) := by decide +kernel
theorem d_M_next_18 : decode b_M_next 18 = .ok (.iconst 0, 1) := by decide +kernel
theorem d_M_next_19 : decode b_M_next 19 = .ok (.invokevirtual 106, 3) := by decide +kernel
theorem d_M_next_22 : decode b_M_next 22 = .ok (.istore 7, 2) := by decide +kernel
theorem d_M_next_24 : decode b_M_next 24 = .ok (.iload 7, 2) := by decide +kernel
theorem d_M_next_26 : decode b_M_next 26 = .ok (.ifCond .eq 24, 3) := by decide +kernel
theorem d_M_next_29 : decode b_M_next 29 = .ok (.iload 6, 2) := by decide +kernel
theorem d_M_next_31 : decode b_M_next 31 = .ok (.ifCond .ne 15, 3) := by decide +kernel
theorem d_M_next_34 : decode b_M_next 34 = .ok (.aload_n 0, 1) := by decide +kernel
theorem d_M_next_35 : decode b_M_next 35 = .ok (.iload_n 1, 1) := by decide +kernel
theorem d_M_next_36 : decode b_M_next 36 = .ok (.iload_n 2, 1) := by decide +kernel
theorem d_M_next_37 : decode b_M_next 37 = .ok (.iload_n 3, 1) := by decide +kernel
theorem d_M_next_38 : decode b_M_next 38 = .ok (.iload 5, 2) := by decide +kernel
theorem d_M_next_40 : decode b_M_next 40 = .ok (.invokevirtual 110, 3) := by decide +kernel
theorem d_M_next_43 : decode b_M_next 43 = .ok (.ifCond .eq 7, 3) := by decide +kernel
theorem d_M_next_46 : decode b_M_next 46 = .ok (.iconst 1, 1) := by decide +kernel
theorem d_M_next_47 : decode b_M_next 47 = .ok (.goto 4, 3) := by decide +kernel
theorem d_M_next_50 : decode b_M_next 50 = .ok (.iconst 0, 1) := by decide +kernel
theorem d_M_next_51 : decode b_M_next 51 = .ok (.istore 8, 2) := by decide +kernel
theorem d_M_next_53 : decode b_M_next 53 = .ok (.iload 6, 2) := by decide +kernel
theorem d_M_next_55 : decode b_M_next 55 = .ok (.ifCond .eq 12, 3) := by decide +kernel
theorem d_M_next_58 : decode b_M_next 58 = .ok (.iload 7, 2) := by decide +kernel
theorem d_M_next_60 : decode b_M_next 60 = .ok (.ifCond .ne 7, 3) := by decide +kernel
theorem d_M_next_63 : decode b_M_next 63 = .ok (.iconst 1, 1) := by decide +kernel
theorem d_M_next_64 : decode b_M_next 64 = .ok (.goto 4, 3) := by decide +kernel
theorem d_M_next_67 : decode b_M_next 67 = .ok (.iconst 0, 1) := by decide +kernel
theorem d_M_next_68 : decode b_M_next 68 = .ok (.istore 9, 2) := by decide +kernel
theorem d_M_next_70 : decode b_M_next 70 = .ok (.iload 9, 2) := by decide +kernel
theorem d_M_next_72 : decode b_M_next 72 = .ok (.ifCond .eq 8, 3) := by decide +kernel
theorem d_M_next_75 : decode b_M_next 75 = .ok (.iload 4, 2) := by decide +kernel
theorem d_M_next_77 : decode b_M_next 77 = .ok (.goto 23, 3) := by decide +kernel
theorem d_M_next_80 : decode b_M_next 80 = .ok (.iload 8, 2) := by decide +kernel
theorem d_M_next_82 : decode b_M_next 82 = .ok (.ifCond .eq 12, 3) := by decide +kernel
theorem d_M_next_85 : decode b_M_next 85 = .ok (.iload 4, 2) := by decide +kernel
theorem d_M_next_87 : decode b_M_next 87 = .ok (.iconst 3, 1) := by decide +kernel
theorem d_M_next_88 : decode b_M_next 88 = .ok (.iadd, 1) := by decide +kernel
theorem d_M_next_89 : decode b_M_next 89 = .ok (.iconst 4, 1) := by decide +kernel
theorem d_M_next_90 : decode b_M_next 90 = .ok (.irem, 1) := by decide +kernel
theorem d_M_next_91 : decode b_M_next 91 = .ok (.goto 9, 3) := by decide +kernel
theorem d_M_next_94 : decode b_M_next 94 = .ok (.iload 4, 2) := by decide +kernel
theorem d_M_next_96 : decode b_M_next 96 = .ok (.iconst 1, 1) := by decide +kernel
theorem d_M_next_97 : decode b_M_next 97 = .ok (.iadd, 1) := by decide +kernel
theorem d_M_next_98 : decode b_M_next 98 = .ok (.iconst 4, 1) := by decide +kernel
theorem d_M_next_99 : decode b_M_next 99 = .ok (.irem, 1) := by decide +kernel
theorem d_M_next_100 : decode b_M_next 100 = .ok (.ireturn, 1) := by decide +kernel
theorem d_M_walk_0 : decode b_M_walk 0 = .ok (.aload_n 0, 1) := by decide +kernel
theorem d_M_walk_1 : decode b_M_walk 1 = .ok (.getfield 114, 3) := by decide +kernel
theorem d_M_walk_4 : decode b_M_walk 4 = .ok (.istore 6, 2) := by decide +kernel
theorem d_M_walk_6 : decode b_M_walk 6 = .ok (.iload_n 2, 1) := by decide +kernel
theorem d_M_walk_7 : decode b_M_walk 7 = .ok (.istore 7, 2) := by decide +kernel
theorem d_M_walk_9 : decode b_M_walk 9 = .ok (.iload_n 3, 1) := by decide +kernel
theorem d_M_walk_10 : decode b_M_walk 10 = .ok (.istore 8, 2) := by decide +kernel
theorem d_M_walk_12 : decode b_M_walk 12 = .ok (.iconst 0, 1) := by decide +kernel
theorem d_M_walk_13 : decode b_M_walk 13 = .ok (.istore 9, 2) := by decide +kernel
theorem d_M_walk_15 : decode b_M_walk 15 = .ok (.iconst 0, 1) := by decide +kernel
theorem d_M_walk_16 : decode b_M_walk 16 = .ok (.istore 10, 2) := by decide +kernel
theorem d_M_walk_18 : decode b_M_walk 18 = .ok (.iconst 1, 1) := by decide +kernel
theorem d_M_walk_19 : decode b_M_walk 19 = .ok (.istore 11, 2) := by decide +kernel
theorem d_M_walk_21 : decode b_M_walk 21 = .ok (.iload 11, 2) := by decide +kernel
theorem d_M_walk_23 : decode b_M_walk 23 = .ok (.ifCond .eq 129, 3) := by decide +kernel
theorem d_M_walk_26 : decode b_M_walk 26 = .ok (.iload 9, 2) := by decide +kernel
theorem d_M_walk_28 : decode b_M_walk 28 = .ok (.ifCond .ne 17, 3) := by decide +kernel
theorem d_M_walk_31 : decode b_M_walk 31 = .ok (.aload_n 0, 1) := by decide +kernel
theorem d_M_walk_32 : decode b_M_walk 32 = .ok (.getfield 31, 3) := by decide +kernel
theorem d_M_walk_35 : decode b_M_walk 35 = .ok (.bipush 16, 2) := by decide +kernel
theorem d_M_walk_37 : decode b_M_walk 37 = .ok (.iload 8, 2) := by decide +kernel
theorem d_M_walk_39 : decode b_M_walk 39 = .ok (.imul, 1) := by decide +kernel
theorem d_M_walk_40 : decode b_M_walk 40 = .ok (.iload 7, 2) := by decide +kernel
theorem d_M_walk_42 : decode b_M_walk 42 = .ok (.iadd, 1) := by decide +kernel
theorem d_M_walk_43 : decode b_M_walk 43 = .ok (.iconst 1, 1) := by decide +kernel
theorem d_M_walk_44 : decode b_M_walk 44 = .ok (.bastore, 1) := by decide +kernel
theorem d_M_walk_45 : decode b_M_walk 45 = .ok (.aload_n 0, 1) := by decide +kernel
theorem d_M_walk_46 : decode b_M_walk 46 = .ok (.getfield 25, 3) := by decide +kernel
theorem d_M_walk_49 : decode b_M_walk 49 = .ok (.aload_n 0, 1) := by decide +kernel
theorem d_M_walk_50 : decode b_M_walk 50 = .ok (.getfield 114, 3) := by decide +kernel
theorem d_M_walk_53 : decode b_M_walk 53 = .ok (.iload 7, 2) := by decide +kernel
theorem d_M_walk_55 : decode b_M_walk 55 = .ok (.iastore, 1) := by decide +kernel
theorem d_M_walk_56 : decode b_M_walk 56 = .ok (.aload_n 0, 1) := by decide +kernel
theorem d_M_walk_57 : decode b_M_walk 57 = .ok (.getfield 28, 3) := by decide +kernel
theorem d_M_walk_60 : decode b_M_walk 60 = .ok (.aload_n 0, 1) := by decide +kernel
theorem d_M_walk_61 : decode b_M_walk 61 = .ok (.getfield 114, 3) := by decide +kernel
theorem d_M_walk_64 : decode b_M_walk 64 = .ok (.iload 8, 2) := by decide +kernel
theorem d_M_walk_66 : decode b_M_walk 66 = .ok (.iastore, 1) := by decide +kernel
theorem d_M_walk_67 : decode b_M_walk 67 = .ok (.aload_n 0, 1) := by decide +kernel
theorem d_M_walk_68 : decode b_M_walk 68 = .ok (.dup, 1) := by decide +kernel
theorem d_M_walk_69 : decode b_M_walk 69 = .ok (.getfield 114, 3) := by decide +kernel
theorem d_M_walk_72 : decode b_M_walk 72 = .ok (.iconst 1, 1) := by decide +kernel
theorem d_M_walk_73 : decode b_M_walk 73 = .ok (.iadd, 1) := by decide +kernel
theorem d_M_walk_74 : decode b_M_walk 74 = .ok (.putfield 114, 3) := by decide +kernel
theorem d_M_walk_77 : decode b_M_walk 77 = .ok (.iload 10, 2) := by decide +kernel
theorem d_M_walk_79 : decode b_M_walk 79 = .ok (.iload 7, 2) := by decide +kernel
theorem d_M_walk_81 : decode b_M_walk 81 = .ok (.iload 9, 2) := by decide +kernel
theorem d_M_walk_83 : decode b_M_walk 83 = .ok (.invokestatic 117, 3) := by decide +kernel
theorem d_M_walk_86 : decode b_M_walk 86 = .ok (.imul, 1) := by decide +kernel
theorem d_M_walk_87 : decode b_M_walk 87 = .ok (.iadd, 1) := by decide +kernel
theorem d_M_walk_88 : decode b_M_walk 88 = .ok (.istore 10, 2) := by decide +kernel
theorem d_M_walk_90 : decode b_M_walk 90 = .ok (.iload 7, 2) := by decide +kernel
theorem d_M_walk_92 : decode b_M_walk 92 = .ok (.iload 9, 2) := by decide +kernel
theorem d_M_walk_94 : decode b_M_walk 94 = .ok (.invokestatic 121, 3) := by decide +kernel
theorem d_M_walk_97 : decode b_M_walk 97 = .ok (.iadd, 1) := by decide +kernel
theorem d_M_walk_98 : decode b_M_walk 98 = .ok (.istore 7, 2) := by decide +kernel
theorem d_M_walk_100 : decode b_M_walk 100 = .ok (.iload 8, 2) := by decide +kernel
theorem d_M_walk_102 : decode b_M_walk 102 = .ok (.iload 9, 2) := by decide +kernel
theorem d_M_walk_104 : decode b_M_walk 104 = .ok (.invokestatic 117, 3) := by decide +kernel
theorem d_M_walk_107 : decode b_M_walk 107 = .ok (.iadd, 1) := by decide +kernel
theorem d_M_walk_108 : decode b_M_walk 108 = .ok (.istore 8, 2) := by decide +kernel
theorem d_M_walk_110 : decode b_M_walk 110 = .ok (.aload_n 0, 1) := by decide +kernel
theorem d_M_walk_111 : decode b_M_walk 111 = .ok (.iload_n 1, 1) := by decide +kernel
theorem d_M_walk_112 : decode b_M_walk 112 = .ok (.iload 7, 2) := by decide +kernel
theorem d_M_walk_114 : decode b_M_walk 114 = .ok (.iload 8, 2) := by decide +kernel
theorem d_M_walk_116 : decode b_M_walk 116 = .ok (.iload 9, 2) := by decide +kernel
theorem d_M_walk_118 : decode b_M_walk 118 = .ok (.iload 4, 2) := by decide +kernel
theorem d_M_walk_120 : decode b_M_walk 120 = .ok (.invokevirtual 124, 3) := by decide +kernel
theorem d_M_walk_123 : decode b_M_walk 123 = .ok (.istore 9, 2) := by decide +kernel
theorem d_M_walk_125 : decode b_M_walk 125 = .ok (.iload 7, 2) := by decide +kernel
theorem d_M_walk_127 : decode b_M_walk 127 = .ok (.iload_n 2, 1) := by decide +kernel
theorem d_M_walk_128 : decode b_M_walk 128 = .ok (.if_icmp .ne 14, 3) := by decide +kernel
theorem d_M_walk_131 : decode b_M_walk 131 = .ok (.iload 8, 2) := by decide +kernel
theorem d_M_walk_133 : decode b_M_walk 133 = .ok (.iload_n 3, 1) := by decide +kernel
theorem d_M_walk_134 : decode b_M_walk 134 = .ok (.if_icmp .ne 8, 3) := by decide +kernel
theorem d_M_walk_137 : decode b_M_walk 137 = .ok (.iload 9, 2) := by decide +kernel
theorem d_M_walk_139 : decode b_M_walk 139 = .ok (.ifCond .eq 7, 3) := by decide +kernel
theorem d_M_walk_142 : decode b_M_walk 142 = .ok (.iconst 1, 1) := by decide +kernel
theorem d_M_walk_143 : decode b_M_walk 143 = .ok (.goto 4, 3) := by decide +kernel
theorem d_M_walk_146 : decode b_M_walk 146 = .ok (.iconst 0, 1) := by decide +kernel
theorem d_M_walk_147 : decode b_M_walk 147 = .ok (.istore 11, 2) := by decide +kernel
theorem d_M_walk_149 : decode b_M_walk 149 = .ok (.goto (-128), 3) := by decide +kernel
theorem d_M_walk_152 : decode b_M_walk 152 = .ok (.iload 10, 2) := by decide +kernel
theorem d_M_walk_154 : decode b_M_walk 154 = .ok (.iload 5, 2) := by decide +kernel
theorem d_M_walk_156 : decode b_M_walk 156 = .ok (.if_icmp .gt 18, 3) := by decide +kernel
theorem d_M_walk_159 : decode b_M_walk 159 = .ok (.iload 10, 2) := by decide +kernel
theorem d_M_walk_161 : decode b_M_walk 161 = .ok (.iload 5, 2) := by decide +kernel
theorem d_M_walk_163 : decode b_M_walk 163 = .ok (.ineg, 1) := by decide +kernel
theorem d_M_walk_164 : decode b_M_walk 164 = .ok (.if_icmp .lt 10, 3) := by decide +kernel
theorem d_M_walk_167 : decode b_M_walk 167 = .ok (.aload_n 0, 1) := by decide +kernel
theorem d_M_walk_168 : decode b_M_walk 168 = .ok (.iload 6, 2) := by decide +kernel
theorem d_M_walk_170 : decode b_M_walk 170 = .ok (.putfield 114, 3) := by decide +kernel
theorem d_M_walk_173 : decode b_M_walk 173 = .ok (.return_, 1) := by decide +kernel
theorem d_M_walk_174 : decode b_M_walk 174 = .ok (.aload_n 0, 1) := by decide +kernel
theorem d_M_walk_175 : decode b_M_walk 175 = .ok (.getfield 13, 3) := by decide +kernel
theorem d_M_walk_178 : decode b_M_walk 178 = .ok (.aload_n 0, 1) := by decide +kernel
theorem d_M_walk_179 : decode b_M_walk 179 = .ok (.getfield 83, 3) := by decide +kernel
theorem d_M_walk_182 : decode b_M_walk 182 = .ok (.iload 6, 2) := by decide +kernel
theorem d_M_walk_184 : decode b_M_walk 184 = .ok (.iastore, 1) := by decide +kernel
theorem d_M_walk_185 : decode b_M_walk 185 = .ok (.aload_n 0, 1) := by decide +kernel
theorem d_M_walk_186 : decode b_M_walk 186 = .ok (.getfield 16, 3) := by decide +kernel
theorem d_M_walk_189 : decode b_M_walk 189 = .ok (.aload_n 0, 1) := by decide +kernel
theorem d_M_walk_190 : decode b_M_walk 190 = .ok (.getfield 83, 3) := by decide +kernel
theorem d_M_walk_193 : decode b_M_walk 193 = .ok (.aload_n 0, 1) := by decide +kernel
theorem d_M_walk_194 : decode b_M_walk 194 = .ok (.getfield 114, 3) := by decide +kernel
theorem d_M_walk_197 : decode b_M_walk 197 = .ok (.iload 6, 2) := by decide +kernel
theorem d_M_walk_199 : decode b_M_walk 199 = .ok (.isub, 1) := by decide +kernel
theorem d_M_walk_200 : decode b_M_walk 200 = .ok (.iastore, 1) := by decide +kernel
theorem d_M_walk_201 : decode b_M_walk 201 = .ok (.aload_n 0, 1) := by decide +kernel
theorem d_M_walk_202 : decode b_M_walk 202 = .ok (.getfield 19, 3) := by decide +kernel
theorem d_M_walk_205 : decode b_M_walk 205 = .ok (.aload_n 0, 1) := by decide +kernel
theorem d_M_walk_206 : decode b_M_walk 206 = .ok (.getfield 83, 3) := by decide +kernel
theorem d_M_walk_209 : decode b_M_walk 209 = .ok (.iload_n 1, 1) := by decide +kernel
theorem d_M_walk_210 : decode b_M_walk 210 = .ok (.iastore, 1) := by decide +kernel
theorem d_M_walk_211 : decode b_M_walk 211 = .ok (.aload_n 0, 1) := by decide +kernel
theorem d_M_walk_212 : decode b_M_walk 212 = .ok (.getfield 22, 3) := by decide +kernel
theorem d_M_walk_215 : decode b_M_walk 215 = .ok (.aload_n 0, 1) := by decide +kernel
theorem d_M_walk_216 : decode b_M_walk 216 = .ok (.getfield 83, 3) := by decide +kernel
theorem d_M_walk_219 : decode b_M_walk 219 = .ok (.iload 10, 2) := by decide +kernel
theorem d_M_walk_221 : decode b_M_walk 221 = .ok (.iastore, 1) := by decide +kernel
theorem d_M_walk_222 : decode b_M_walk 222 = .ok (.aload_n 0, 1) := by decide +kernel
theorem d_M_walk_223 : decode b_M_walk 223 = .ok (.dup, 1) := by decide +kernel
theorem d_M_walk_224 : decode b_M_walk 224 = .ok (.getfield 83, 3) := by decide +kernel
theorem d_M_walk_227 : decode b_M_walk 227 = .ok (.iconst 1, 1) := by decide +kernel
theorem d_M_walk_228 : decode b_M_walk 228 = .ok (.iadd, 1) := by decide +kernel
theorem d_M_walk_229 : decode b_M_walk 229 = .ok (.putfield 83, 3) := by decide +kernel
theorem d_M_walk_232 : decode b_M_walk 232 = .ok (.return_, 1) := by decide +kernel
theorem d_M_trace_0 : decode b_M_trace 0 = .ok (.aload_n 0, 1) := by decide +kernel
theorem d_M_trace_1 : decode b_M_trace 1 = .ok (.iload_n 1, 1) := by decide +kernel
theorem d_M_trace_2 : decode b_M_trace 2 = .ok (.iconst 0, 1) := by decide +kernel
theorem d_M_trace_3 : decode b_M_trace 3 = .ok (.iconst 3, 1) := by decide +kernel
theorem d_M_trace_4 : decode b_M_trace 4 = .ok (.invokestatic 75, 3) := by decide +kernel
theorem d_M_trace_7 : decode b_M_trace 7 = .ok (.ifCond .eq 18, 3) := by decide +kernel
theorem d_M_trace_10 : decode b_M_trace 10 = .ok (.iload_n 2, 1) := by decide +kernel
theorem d_M_trace_11 : decode b_M_trace 11 = .ok (.iconst 0, 1) := by decide +kernel
theorem d_M_trace_12 : decode b_M_trace 12 = .ok (.sipush 256, 3) := by decide +kernel
theorem d_M_trace_15 : decode b_M_trace 15 = .ok (.invokestatic 75, 3) := by decide +kernel
theorem d_M_trace_18 : decode b_M_trace 18 = .ok (.ifCond .eq 7, 3) := by decide +kernel
theorem d_M_trace_21 : decode b_M_trace 21 = .ok (.iconst 0, 1) := by decide +kernel
theorem d_M_trace_22 : decode b_M_trace 22 = .ok (.goto 4, 3) := by decide +kernel
theorem d_M_trace_25 : decode b_M_trace 25 = .ok (.iconst 1, 1) := by decide +kernel
theorem d_M_trace_26 : decode b_M_trace 26 = .ok (.invokevirtual 96, 3) := by decide +kernel
theorem d_M_trace_29 : decode b_M_trace 29 = .ok (.ifCond .eq 5, 3) := by decide +kernel
theorem d_M_trace_32 : decode b_M_trace 32 = .ok (.iconst 0, 1) := by decide +kernel
theorem d_M_trace_33 : decode b_M_trace 33 = .ok (.ireturn, 1) := by decide +kernel
theorem d_M_trace_34 : decode b_M_trace 34 = .ok (.aload_n 0, 1) := by decide +kernel
theorem d_M_trace_35 : decode b_M_trace 35 = .ok (.invokevirtual 100, 3) := by decide +kernel
theorem d_M_trace_38 : decode b_M_trace 38 = .ok (.aload_n 0, 1) := by decide +kernel
theorem d_M_trace_39 : decode b_M_trace 39 = .ok (.iconst 0, 1) := by decide +kernel
theorem d_M_trace_40 : decode b_M_trace 40 = .ok (.putfield 114, 3) := by decide +kernel
theorem d_M_trace_43 : decode b_M_trace 43 = .ok (.iconst 1, 1) := by decide +kernel
theorem d_M_trace_44 : decode b_M_trace 44 = .ok (.istore_n 3, 1) := by decide +kernel
theorem d_M_trace_45 : decode b_M_trace 45 = .ok (.iload_n 3, 1) := by decide +kernel
theorem d_M_trace_46 : decode b_M_trace 46 = .ok (.bipush 8, 2) := by decide +kernel
theorem d_M_trace_48 : decode b_M_trace 48 = .ok (.if_icmp .ge 123, 3) := by decide +kernel
theorem d_M_trace_51 : decode b_M_trace 51 = .ok (.iconst 0, 1) := by decide +kernel
theorem d_M_trace_52 : decode b_M_trace 52 = .ok (.istore 4, 2) := by decide +kernel
theorem d_M_trace_54 : decode b_M_trace 54 = .ok (.iload 4, 2) := by decide +kernel
theorem d_M_trace_56 : decode b_M_trace 56 = .ok (.sipush 256, 3) := by decide +kernel
theorem d_M_trace_59 : decode b_M_trace 59 = .ok (.if_icmp .ge 17, 3) := by decide +kernel
theorem d_M_trace_62 : decode b_M_trace 62 = .ok (.aload_n 0, 1) := by decide +kernel
theorem d_M_trace_63 : decode b_M_trace 63 = .ok (.getfield 31, 3) := by decide +kernel
theorem d_M_trace_66 : decode b_M_trace 66 = .ok (.iload 4, 2) := by decide +kernel
theorem d_M_trace_68 : decode b_M_trace 68 = .ok (.iconst 0, 1) := by decide +kernel
theorem d_M_trace_69 : decode b_M_trace 69 = .ok (.bastore, 1) := by decide +kernel
theorem d_M_trace_70 : decode b_M_trace 70 = .ok (.iinc 4 1, 3) := by decide +kernel
theorem d_M_trace_73 : decode b_M_trace 73 = .ok (.goto (-19), 3) := by decide +kernel
theorem d_M_trace_76 : decode b_M_trace 76 = .ok (.iconst 0, 1) := by decide +kernel
theorem d_M_trace_77 : decode b_M_trace 77 = .ok (.istore 4, 2) := by decide +kernel
theorem d_M_trace_79 : decode b_M_trace 79 = .ok (.iload 4, 2) := by decide +kernel
theorem d_M_trace_81 : decode b_M_trace 81 = .ok (.aload_n 0, 1) := by decide +kernel
theorem d_M_trace_82 : decode b_M_trace 82 = .ok (.getfield 69, 3) := by decide +kernel
theorem d_M_trace_85 : decode b_M_trace 85 = .ok (.if_icmp .ge 80, 3) := by decide +kernel
theorem d_M_trace_88 : decode b_M_trace 88 = .ok (.iconst 0, 1) := by decide +kernel
theorem d_M_trace_89 : decode b_M_trace 89 = .ok (.istore 5, 2) := by decide +kernel
theorem d_M_trace_91 : decode b_M_trace 91 = .ok (.iload 5, 2) := by decide +kernel
theorem d_M_trace_93 : decode b_M_trace 93 = .ok (.aload_n 0, 1) := by decide +kernel
theorem d_M_trace_94 : decode b_M_trace 94 = .ok (.getfield 65, 3) := by decide +kernel
theorem d_M_trace_97 : decode b_M_trace 97 = .ok (.if_icmp .ge 62, 3) := by decide +kernel
theorem d_M_trace_100 : decode b_M_trace 100 = .ok (.aload_n 0, 1) := by decide +kernel
theorem d_M_trace_101 : decode b_M_trace 101 = .ok (.iload_n 3, 1) := by decide +kernel
theorem d_M_trace_102 : decode b_M_trace 102 = .ok (.iload 5, 2) := by decide +kernel
theorem d_M_trace_104 : decode b_M_trace 104 = .ok (.iload 4, 2) := by decide +kernel
theorem d_M_trace_106 : decode b_M_trace 106 = .ok (.invokevirtual 103, 3) := by decide +kernel
theorem d_M_trace_109 : decode b_M_trace 109 = .ok (.ifCond .eq 44, 3) := by decide +kernel
theorem d_M_trace_112 : decode b_M_trace 112 = .ok (.aload_n 0, 1) := by decide +kernel
theorem d_M_trace_113 : decode b_M_trace 113 = .ok (.iload_n 3, 1) := by decide +kernel
theorem d_M_trace_114 : decode b_M_trace 114 = .ok (.iload 5, 2) := by decide +kernel
theorem d_M_trace_116 : decode b_M_trace 116 = .ok (.iload 4, 2) := by decide +kernel
theorem d_M_trace_118 : decode b_M_trace 118 = .ok (.iconst 1, 1) := by decide +kernel
theorem d_M_trace_119 : decode b_M_trace 119 = .ok (.isub, 1) := by decide +kernel
theorem d_M_trace_120 : decode b_M_trace 120 = .ok (.invokevirtual 103, 3) := by decide +kernel
theorem d_M_trace_123 : decode b_M_trace 123 = .ok (.ifCond .ne 30, 3) := by decide +kernel
theorem d_M_trace_126 : decode b_M_trace 126 = .ok (.aload_n 0, 1) := by decide +kernel
theorem d_M_trace_127 : decode b_M_trace 127 = .ok (.getfield 31, 3) := by decide +kernel
theorem d_M_trace_130 : decode b_M_trace 130 = .ok (.bipush 16, 2) := by decide +kernel
theorem d_M_trace_132 : decode b_M_trace 132 = .ok (.iload 4, 2) := by decide +kernel
theorem d_M_trace_134 : decode b_M_trace 134 = .ok (.imul, 1) := by decide +kernel
theorem d_M_trace_135 : decode b_M_trace 135 = .ok (.iload 5, 2) := by decide +kernel
theorem d_M_trace_137 : decode b_M_trace 137 = .ok (.iadd, 1) := by decide +kernel
theorem d_M_trace_138 : decode b_M_trace 138 = .ok (.baload, 1) := by decide +kernel
theorem d_M_trace_139 : decode b_M_trace 139 = .ok (.ifCond .ne 14, 3) := by decide +kernel
theorem d_M_trace_142 : decode b_M_trace 142 = .ok (.aload_n 0, 1) := by decide +kernel
theorem d_M_trace_143 : decode b_M_trace 143 = .ok (.iload_n 3, 1) := by decide +kernel
theorem d_M_trace_144 : decode b_M_trace 144 = .ok (.iload 5, 2) := by decide +kernel
theorem d_M_trace_146 : decode b_M_trace 146 = .ok (.iload 4, 2) := by decide +kernel
theorem d_M_trace_148 : decode b_M_trace 148 = .ok (.iload_n 1, 1) := by decide +kernel
theorem d_M_trace_149 : decode b_M_trace 149 = .ok (.iload_n 2, 1) := by decide +kernel
theorem d_M_trace_150 : decode b_M_trace 150 = .ok (.invokevirtual 128, 3) := by decide +kernel
theorem d_M_trace_153 : decode b_M_trace 153 = .ok (.iinc 5 1, 3) := by decide +kernel
theorem d_M_trace_156 : decode b_M_trace 156 = .ok (.goto (-65), 3) := by decide +kernel
theorem d_M_trace_159 : decode b_M_trace 159 = .ok (.iinc 4 1, 3) := by decide +kernel
theorem d_M_trace_162 : decode b_M_trace 162 = .ok (.goto (-83), 3) := by decide +kernel
theorem d_M_trace_165 : decode b_M_trace 165 = .ok (.iinc 3 1, 3) := by decide +kernel
theorem d_M_trace_168 : decode b_M_trace 168 = .ok (.goto (-123), 3) := by decide +kernel
theorem d_M_trace_171 : decode b_M_trace 171 = .ok (.aload_n 0, 1) := by decide +kernel
theorem d_M_trace_172 : decode b_M_trace 172 = .ok (.iconst 1, 1) := by decide +kernel
theorem d_M_trace_173 : decode b_M_trace 173 = .ok (.putfield 79, 3) := by decide +kernel
theorem d_M_trace_176 : decode b_M_trace 176 = .ok (.aload_n 0, 1) := by decide +kernel
theorem d_M_trace_177 : decode b_M_trace 177 = .ok (.getfield 83, 3) := by decide +kernel
theorem d_M_trace_180 : decode b_M_trace 180 = .ok (.ireturn, 1) := by decide +kernel
theorem d_M_xAt_0 : decode b_M_xAt 0 = .ok (.aload_n 0, 1) := by decide +kernel
theorem d_M_xAt_1 : decode b_M_xAt 1 = .ok (.getfield 25, 3) := by decide +kernel
theorem d_M_xAt_4 : decode b_M_xAt 4 = .ok (.aload_n 0, 1) := by decide +kernel
theorem d_M_xAt_5 : decode b_M_xAt 5 = .ok (.getfield 13, 3) := by decide +kernel
theorem d_M_xAt_8 : decode b_M_xAt 8 = .ok (.iload_n 1, 1) := by decide +kernel
theorem d_M_xAt_9 : decode b_M_xAt 9 = .ok (.iaload, 1) := by decide +kernel
theorem d_M_xAt_10 : decode b_M_xAt 10 = .ok (.iload_n 2, 1) := by decide +kernel
theorem d_M_xAt_11 : decode b_M_xAt 11 = .ok (.aload_n 0, 1) := by decide +kernel
theorem d_M_xAt_12 : decode b_M_xAt 12 = .ok (.getfield 16, 3) := by decide +kernel
theorem d_M_xAt_15 : decode b_M_xAt 15 = .ok (.iload_n 1, 1) := by decide +kernel
theorem d_M_xAt_16 : decode b_M_xAt 16 = .ok (.iaload, 1) := by decide +kernel
theorem d_M_xAt_17 : decode b_M_xAt 17 = .ok (.irem, 1) := by decide +kernel
theorem d_M_xAt_18 : decode b_M_xAt 18 = .ok (.iadd, 1) := by decide +kernel
theorem d_M_xAt_19 : decode b_M_xAt 19 = .ok (.iaload, 1) := by decide +kernel
theorem d_M_xAt_20 : decode b_M_xAt 20 = .ok (.ireturn, 1) := by decide +kernel
theorem d_M_yAt_0 : decode b_M_yAt 0 = .ok (.aload_n 0, 1) := by decide +kernel
theorem d_M_yAt_1 : decode b_M_yAt 1 = .ok (.getfield 28, 3) := by decide +kernel
theorem d_M_yAt_4 : decode b_M_yAt 4 = .ok (.aload_n 0, 1) := by decide +kernel
theorem d_M_yAt_5 : decode b_M_yAt 5 = .ok (.getfield 13, 3) := by decide +kernel
theorem d_M_yAt_8 : decode b_M_yAt 8 = .ok (.iload_n 1, 1) := by decide +kernel
theorem d_M_yAt_9 : decode b_M_yAt 9 = .ok (.iaload, 1) := by decide +kernel
theorem d_M_yAt_10 : decode b_M_yAt 10 = .ok (.iload_n 2, 1) := by decide +kernel
theorem d_M_yAt_11 : decode b_M_yAt 11 = .ok (.aload_n 0, 1) := by decide +kernel
theorem d_M_yAt_12 : decode b_M_yAt 12 = .ok (.getfield 16, 3) := by decide +kernel
theorem d_M_yAt_15 : decode b_M_yAt 15 = .ok (.iload_n 1, 1) := by decide +kernel
theorem d_M_yAt_16 : decode b_M_yAt 16 = .ok (.iaload, 1) := by decide +kernel
theorem d_M_yAt_17 : decode b_M_yAt 17 = .ok (.irem, 1) := by decide +kernel
theorem d_M_yAt_18 : decode b_M_yAt 18 = .ok (.iadd, 1) := by decide +kernel
theorem d_M_yAt_19 : decode b_M_yAt 19 = .ok (.iaload, 1) := by decide +kernel
theorem d_M_yAt_20 : decode b_M_yAt 20 = .ok (.ireturn, 1) := by decide +kernel
theorem d_M_upright_0 : decode b_M_upright 0 = .ok (.iconst 0, 1) := by decide +kernel
theorem d_M_upright_1 : decode b_M_upright 1 = .ok (.istore 4, 2) := by decide +kernel
theorem d_M_upright_3 : decode b_M_upright 3 = .ok (.iconst 0, 1) := by decide +kernel
theorem d_M_upright_4 : decode b_M_upright 4 = .ok (.istore 5, 2) := by decide +kernel
theorem d_M_upright_6 : decode b_M_upright 6 = .ok (.iload 5, 2) := by decide +kernel
theorem d_M_upright_8 : decode b_M_upright 8 = .ok (.aload_n 0, 1) := by decide +kernel
theorem d_M_upright_9 : decode b_M_upright 9 = .ok (.getfield 16, 3) := by decide +kernel
theorem d_M_upright_12 : decode b_M_upright 12 = .ok (.iload_n 1, 1) := by decide +kernel
theorem d_M_upright_13 : decode b_M_upright 13 = .ok (.iaload, 1) := by decide +kernel
theorem d_M_upright_14 : decode b_M_upright 14 = .ok (.if_icmp .ge 87, 3) := by decide +kernel
theorem d_M_upright_17 : decode b_M_upright 17 = .ok (.aload_n 0, 1) := by decide +kernel
theorem d_M_upright_18 : decode b_M_upright 18 = .ok (.iload_n 1, 1) := by decide +kernel
theorem d_M_upright_19 : decode b_M_upright 19 = .ok (.iload 5, 2) := by decide +kernel
theorem d_M_upright_21 : decode b_M_upright 21 = .ok (.invokevirtual 132, 3) := by decide +kernel
theorem d_M_upright_24 : decode b_M_upright 24 = .ok (.istore 6, 2) := by decide +kernel
theorem d_M_upright_26 : decode b_M_upright 26 = .ok (.aload_n 0, 1) := by decide +kernel
theorem d_M_upright_27 : decode b_M_upright 27 = .ok (.iload_n 1, 1) := by decide +kernel
theorem d_M_upright_28 : decode b_M_upright 28 = .ok (.iload 5, 2) := by decide +kernel
theorem d_M_upright_30 : decode b_M_upright 30 = .ok (.iconst 1, 1) := by decide +kernel
theorem d_M_upright_31 : decode b_M_upright 31 = .ok (.iadd, 1) := by decide +kernel
theorem d_M_upright_32 : decode b_M_upright 32 = .ok (.invokevirtual 132, 3) := by decide +kernel
theorem d_M_upright_35 : decode b_M_upright 35 = .ok (.istore 7, 2) := by decide +kernel
theorem d_M_upright_37 : decode b_M_upright 37 = .ok (.iload 6, 2) := by decide +kernel
theorem d_M_upright_39 : decode b_M_upright 39 = .ok (.iload 7, 2) := by decide +kernel
theorem d_M_upright_41 : decode b_M_upright 41 = .ok (.if_icmp .eq 36, 3) := by decide +kernel
theorem d_M_upright_44 : decode b_M_upright 44 = .ok (.iload 6, 2) := by decide +kernel
theorem d_M_upright_46 : decode b_M_upright 46 = .ok (.iload 7, 2) := by decide +kernel
theorem d_M_upright_48 : decode b_M_upright 48 = .ok (.if_icmp .ge 8, 3) := by decide +kernel
theorem d_M_upright_51 : decode b_M_upright 51 = .ok (.iload 6, 2) := by decide +kernel
theorem d_M_upright_53 : decode b_M_upright 53 = .ok (.goto 5, 3) := by decide +kernel
theorem d_M_upright_56 : decode b_M_upright 56 = .ok (.iload 7, 2) := by decide +kernel
theorem d_M_upright_58 : decode b_M_upright 58 = .ok (.iload_n 3, 1) := by decide +kernel
theorem d_M_upright_59 : decode b_M_upright 59 = .ok (.if_icmp .ne 18, 3) := by decide +kernel
theorem d_M_upright_62 : decode b_M_upright 62 = .ok (.aload_n 0, 1) := by decide +kernel
theorem d_M_upright_63 : decode b_M_upright 63 = .ok (.iload_n 1, 1) := by decide +kernel
theorem d_M_upright_64 : decode b_M_upright 64 = .ok (.iload 5, 2) := by decide +kernel
theorem d_M_upright_66 : decode b_M_upright 66 = .ok (.invokevirtual 136, 3) := by decide +kernel
theorem d_M_upright_69 : decode b_M_upright 69 = .ok (.iload_n 2, 1) := by decide +kernel
theorem d_M_upright_70 : decode b_M_upright 70 = .ok (.if_icmp .gt 7, 3) := by decide +kernel
theorem d_M_upright_73 : decode b_M_upright 73 = .ok (.iconst 1, 1) := by decide +kernel
theorem d_M_upright_74 : decode b_M_upright 74 = .ok (.goto 4, 3) := by decide +kernel
theorem d_M_upright_77 : decode b_M_upright 77 = .ok (.iconst 0, 1) := by decide +kernel
theorem d_M_upright_78 : decode b_M_upright 78 = .ok (.istore 8, 2) := by decide +kernel
theorem d_M_upright_80 : decode b_M_upright 80 = .ok (.iload 4, 2) := by decide +kernel
theorem d_M_upright_82 : decode b_M_upright 82 = .ok (.iload 8, 2) := by decide +kernel
theorem d_M_upright_84 : decode b_M_upright 84 = .ok (.ifCond .eq 7, 3) := by decide +kernel
theorem d_M_upright_87 : decode b_M_upright 87 = .ok (.iconst 1, 1) := by decide +kernel
theorem d_M_upright_88 : decode b_M_upright 88 = .ok (.goto 4, 3) := by decide +kernel
theorem d_M_upright_91 : decode b_M_upright 91 = .ok (.iconst 0, 1) := by decide +kernel
theorem d_M_upright_92 : decode b_M_upright 92 = .ok (.iadd, 1) := by decide +kernel
theorem d_M_upright_93 : decode b_M_upright 93 = .ok (.istore 4, 2) := by decide +kernel
theorem d_M_upright_95 : decode b_M_upright 95 = .ok (.iinc 5 1, 3) := by decide +kernel
theorem d_M_upright_98 : decode b_M_upright 98 = .ok (.goto (-92), 3) := by decide +kernel
theorem d_M_upright_101 : decode b_M_upright 101 = .ok (.iload 4, 2) := by decide +kernel
theorem d_M_upright_103 : decode b_M_upright 103 = .ok (.ireturn, 1) := by decide +kernel
theorem d_M_size_0 : decode b_M_size 0 = .ok (.iload_n 0, 1) := by decide +kernel
theorem d_M_size_1 : decode b_M_size 1 = .ok (.ifCond .ge 8, 3) := by decide +kernel
theorem d_M_size_4 : decode b_M_size 4 = .ok (.iload_n 0, 1) := by decide +kernel
theorem d_M_size_5 : decode b_M_size 5 = .ok (.ineg, 1) := by decide +kernel
theorem d_M_size_6 : decode b_M_size 6 = .ok (.goto 4, 3) := by decide +kernel
theorem d_M_size_9 : decode b_M_size 9 = .ok (.iload_n 0, 1) := by decide +kernel
theorem d_M_size_10 : decode b_M_size 10 = .ok (.ireturn, 1) := by decide +kernel
theorem d_M_liesIn_0 : decode b_M_liesIn 0 = .ok (.aload_n 0, 1) := by decide +kernel
theorem d_M_liesIn_1 : decode b_M_liesIn 1 = .ok (.getfield 22, 3) := by decide +kernel
theorem d_M_liesIn_4 : decode b_M_liesIn 4 = .ok (.iload_n 1, 1) := by decide +kernel
theorem d_M_liesIn_5 : decode b_M_liesIn 5 = .ok (.iaload, 1) := by decide +kernel
theorem d_M_liesIn_6 : decode b_M_liesIn 6 = .ok (.ifCond .ge 7, 3) := by decide +kernel
theorem d_M_liesIn_9 : decode b_M_liesIn 9 = .ok (.iconst 1, 1) := by decide +kernel
theorem d_M_liesIn_10 : decode b_M_liesIn 10 = .ok (.goto 4, 3) := by decide +kernel
theorem d_M_liesIn_13 : decode b_M_liesIn 13 = .ok (.iconst 0, 1) := by decide +kernel
theorem d_M_liesIn_14 : decode b_M_liesIn 14 = .ok (.istore_n 2, 1) := by decide +kernel
theorem d_M_liesIn_15 : decode b_M_liesIn 15 = .ok (.aload_n 0, 1) := by decide +kernel
theorem d_M_liesIn_16 : decode b_M_liesIn 16 = .ok (.iload_n 1, 1) := by decide +kernel
theorem d_M_liesIn_17 : decode b_M_liesIn 17 = .ok (.iconst 0, 1) := by decide +kernel
theorem d_M_liesIn_18 : decode b_M_liesIn 18 = .ok (.invokevirtual 136, 3) := by decide +kernel
theorem d_M_liesIn_21 : decode b_M_liesIn 21 = .ok (.istore_n 3, 1) := by decide +kernel
theorem d_M_liesIn_22 : decode b_M_liesIn 22 = .ok (.iload_n 2, 1) := by decide +kernel
theorem d_M_liesIn_23 : decode b_M_liesIn 23 = .ok (.ifCond .eq 12, 3) := by decide +kernel
theorem d_M_liesIn_26 : decode b_M_liesIn 26 = .ok (.aload_n 0, 1) := by decide +kernel
theorem d_M_liesIn_27 : decode b_M_liesIn 27 = .ok (.iload_n 1, 1) := by decide +kernel
theorem d_M_liesIn_28 : decode b_M_liesIn 28 = .ok (.iconst 0, 1) := by decide +kernel
theorem d_M_liesIn_29 : decode b_M_liesIn 29 = .ok (.invokevirtual 132, 3) := by decide +kernel
theorem d_M_liesIn_32 : decode b_M_liesIn 32 = .ok (.goto 11, 3) := by decide +kernel
theorem d_M_liesIn_35 : decode b_M_liesIn 35 = .ok (.aload_n 0, 1) := by decide +kernel
theorem d_M_liesIn_36 : decode b_M_liesIn 36 = .ok (.iload_n 1, 1) := by decide +kernel
theorem d_M_liesIn_37 : decode b_M_liesIn 37 = .ok (.iconst 0, 1) := by decide +kernel
theorem d_M_liesIn_38 : decode b_M_liesIn 38 = .ok (.invokevirtual 132, 3) := by decide +kernel
theorem d_M_liesIn_41 : decode b_M_liesIn 41 = .ok (.iconst 1, 1) := by decide +kernel
theorem d_M_liesIn_42 : decode b_M_liesIn 42 = .ok (.isub, 1) := by decide +kernel
theorem d_M_liesIn_43 : decode b_M_liesIn 43 = .ok (.istore 4, 2) := by decide +kernel
theorem d_M_liesIn_45 : decode b_M_liesIn 45 = .ok (.iconst (-1), 1) := by decide +kernel
theorem d_M_liesIn_46 : decode b_M_liesIn 46 = .ok (.istore 5, 2) := by decide +kernel
theorem d_M_liesIn_48 : decode b_M_liesIn 48 = .ok (.iconst 0, 1) := by decide +kernel
theorem d_M_liesIn_49 : decode b_M_liesIn 49 = .ok (.istore 6, 2) := by decide +kernel
theorem d_M_liesIn_51 : decode b_M_liesIn 51 = .ok (.iload 6, 2) := by decide +kernel
theorem d_M_liesIn_53 : decode b_M_liesIn 53 = .ok (.aload_n 0, 1) := by decide +kernel
theorem d_M_liesIn_54 : decode b_M_liesIn 54 = .ok (.getfield 83, 3) := by decide +kernel
theorem d_M_liesIn_57 : decode b_M_liesIn 57 = .ok (.if_icmp .ge 110, 3) := by decide +kernel
theorem d_M_liesIn_60 : decode b_M_liesIn 60 = .ok (.iload 6, 2) := by decide +kernel
theorem d_M_liesIn_62 : decode b_M_liesIn 62 = .ok (.iload_n 1, 1) := by decide +kernel
theorem d_M_liesIn_63 : decode b_M_liesIn 63 = .ok (.if_icmp .eq 42, 3) := by decide +kernel
theorem d_M_liesIn_66 : decode b_M_liesIn 66 = .ok (.aload_n 0, 1) := by decide +kernel
theorem d_M_liesIn_67 : decode b_M_liesIn 67 = .ok (.getfield 19, 3) := by decide +kernel
theorem d_M_liesIn_70 : decode b_M_liesIn 70 = .ok (.iload 6, 2) := by decide +kernel
theorem d_M_liesIn_72 : decode b_M_liesIn 72 = .ok (.iaload, 1) := by decide +kernel
theorem d_M_liesIn_73 : decode b_M_liesIn 73 = .ok (.aload_n 0, 1) := by decide +kernel
theorem d_M_liesIn_74 : decode b_M_liesIn 74 = .ok (.getfield 19, 3) := by decide +kernel
theorem d_M_liesIn_77 : decode b_M_liesIn 77 = .ok (.iload_n 1, 1) := by decide +kernel
theorem d_M_liesIn_78 : decode b_M_liesIn 78 = .ok (.iaload, 1) := by decide +kernel
theorem d_M_liesIn_79 : decode b_M_liesIn 79 = .ok (.if_icmp .ne 26, 3) := by decide +kernel
theorem d_M_liesIn_82 : decode b_M_liesIn 82 = .ok (.aload_n 0, 1) := by decide +kernel
theorem d_M_liesIn_83 : decode b_M_liesIn 83 = .ok (.getfield 22, 3) := by decide +kernel
theorem d_M_liesIn_86 : decode b_M_liesIn 86 = .ok (.iload 6, 2) := by decide +kernel
theorem d_M_liesIn_88 : decode b_M_liesIn 88 = .ok (.iaload, 1) := by decide +kernel
theorem d_M_liesIn_89 : decode b_M_liesIn 89 = .ok (.ifCond .ge 7, 3) := by decide +kernel
theorem d_M_liesIn_92 : decode b_M_liesIn 92 = .ok (.iconst 1, 1) := by decide +kernel
theorem d_M_liesIn_93 : decode b_M_liesIn 93 = .ok (.goto 4, 3) := by decide +kernel
theorem d_M_liesIn_96 : decode b_M_liesIn 96 = .ok (.iconst 0, 1) := by decide +kernel
theorem d_M_liesIn_97 : decode b_M_liesIn 97 = .ok (.iload_n 2, 1) := by decide +kernel
theorem d_M_liesIn_98 : decode b_M_liesIn 98 = .ok (.if_icmp .eq 7, 3) := by decide +kernel
theorem d_M_liesIn_101 : decode b_M_liesIn 101 = .ok (.iconst 1, 1) := by decide +kernel
theorem d_M_liesIn_102 : decode b_M_liesIn 102 = .ok (.goto 4, 3) := by decide +kernel
theorem d_M_liesIn_105 : decode b_M_liesIn 105 = .ok (.iconst 0, 1) := by decide +kernel
theorem d_M_liesIn_106 : decode b_M_liesIn 106 = .ok (.istore 7, 2) := by decide +kernel
theorem d_M_liesIn_108 : decode b_M_liesIn 108 = .ok (.iload 7, 2) := by decide +kernel
theorem d_M_liesIn_110 : decode b_M_liesIn 110 = .ok (.ifCond .eq 51, 3) := by decide +kernel
theorem d_M_liesIn_113 : decode b_M_liesIn 113 = .ok (.aload_n 0, 1) := by decide +kernel
theorem d_M_liesIn_114 : decode b_M_liesIn 114 = .ok (.iload 6, 2) := by decide +kernel
theorem d_M_liesIn_116 : decode b_M_liesIn 116 = .ok (.iload_n 3, 1) := by decide +kernel
theorem d_M_liesIn_117 : decode b_M_liesIn 117 = .ok (.iload 4, 2) := by decide +kernel
theorem d_M_liesIn_119 : decode b_M_liesIn 119 = .ok (.invokevirtual 139, 3) := by decide +kernel
theorem d_M_liesIn_122 : decode b_M_liesIn 122 = .ok (.iconst 2, 1) := by decide +kernel
theorem d_M_liesIn_123 : decode b_M_liesIn 123 = .ok (.irem, 1) := by decide +kernel
theorem d_M_liesIn_124 : decode b_M_liesIn 124 = .ok (.iconst 1, 1) := by decide +kernel
theorem d_M_liesIn_125 : decode b_M_liesIn 125 = .ok (.if_icmp .ne 36, 3) := by decide +kernel
theorem d_M_liesIn_128 : decode b_M_liesIn 128 = .ok (.iload 5, 2) := by decide +kernel
theorem d_M_liesIn_130 : decode b_M_liesIn 130 = .ok (.iconst (-1), 1) := by decide +kernel
theorem d_M_liesIn_131 : decode b_M_liesIn 131 = .ok (.if_icmp .eq 26, 3) := by decide +kernel
theorem d_M_liesIn_134 : decode b_M_liesIn 134 = .ok (.aload_n 0, 1) := by decide +kernel
theorem d_M_liesIn_135 : decode b_M_liesIn 135 = .ok (.getfield 22, 3) := by decide +kernel
theorem d_M_liesIn_138 : decode b_M_liesIn 138 = .ok (.iload 6, 2) := by decide +kernel
theorem d_M_liesIn_140 : decode b_M_liesIn 140 = .ok (.iaload, 1) := by decide +kernel
theorem d_M_liesIn_141 : decode b_M_liesIn 141 = .ok (.invokestatic 143, 3) := by decide +kernel
theorem d_M_liesIn_144 : decode b_M_liesIn 144 = .ok (.aload_n 0, 1) := by decide +kernel
theorem d_M_liesIn_145 : decode b_M_liesIn 145 = .ok (.getfield 22, 3) := by decide +kernel
theorem d_M_liesIn_148 : decode b_M_liesIn 148 = .ok (.iload 5, 2) := by decide +kernel
theorem d_M_liesIn_150 : decode b_M_liesIn 150 = .ok (.iaload, 1) := by decide +kernel
theorem d_M_liesIn_151 : decode b_M_liesIn 151 = .ok (.invokestatic 143, 3) := by decide +kernel
theorem d_M_liesIn_154 : decode b_M_liesIn 154 = .ok (.if_icmp .ge 7, 3) := by decide +kernel
theorem d_M_liesIn_157 : decode b_M_liesIn 157 = .ok (.iload 6, 2) := by decide +kernel
theorem d_M_liesIn_159 : decode b_M_liesIn 159 = .ok (.istore 5, 2) := by decide +kernel
theorem d_M_liesIn_161 : decode b_M_liesIn 161 = .ok (.iinc 6 1, 3) := by decide +kernel
theorem d_M_liesIn_164 : decode b_M_liesIn 164 = .ok (.goto (-113), 3) := by decide +kernel
theorem d_M_liesIn_167 : decode b_M_liesIn 167 = .ok (.iload 5, 2) := by decide +kernel
theorem d_M_liesIn_169 : decode b_M_liesIn 169 = .ok (.ireturn, 1) := by decide +kernel
theorem d_M_about_0 : decode b_M_about 0 = .ok (.aload_n 0, 1) := by decide +kernel
theorem d_M_about_1 : decode b_M_about 1 = .ok (.aload_n 0, 1) := by decide +kernel
theorem d_M_about_2 : decode b_M_about 2 = .ok (.getfield 79, 3) := by decide +kernel
theorem d_M_about_5 : decode b_M_about 5 = .ok (.ifCond .ne 7, 3) := by decide +kernel
theorem d_M_about_8 : decode b_M_about 8 = .ok (.iconst 1, 1) := by decide +kernel
theorem d_M_about_9 : decode b_M_about 9 = .ok (.goto 22, 3) := by decide +kernel
theorem d_M_about_12 : decode b_M_about 12 = .ok (.iload_n 1, 1) := by decide +kernel
theorem d_M_about_13 : decode b_M_about 13 = .ok (.iconst 0, 1) := by decide +kernel
theorem d_M_about_14 : decode b_M_about 14 = .ok (.aload_n 0, 1) := by decide +kernel
theorem d_M_about_15 : decode b_M_about 15 = .ok (.getfield 83, 3) := by decide +kernel
theorem d_M_about_18 : decode b_M_about 18 = .ok (.iconst 1, 1) := by decide +kernel
theorem d_M_about_19 : decode b_M_about 19 = .ok (.isub, 1) := by decide +kernel
theorem d_M_about_20 : decode b_M_about 20 = .ok (.invokestatic 75, 3) := by decide +kernel
theorem d_M_about_23 : decode b_M_about 23 = .ok (.ifCond .ne 7, 3) := by decide +kernel
theorem d_M_about_26 : decode b_M_about 26 = .ok (.iconst 2, 1) := by decide +kernel
theorem d_M_about_27 : decode b_M_about 27 = .ok (.goto 4, 3) := by decide +kernel
theorem d_M_about_30 : decode b_M_about 30 = .ok (.iconst 0, 1) := by decide +kernel
theorem d_M_about_31 : decode b_M_about 31 = .ok (.invokevirtual 96, 3) := by decide +kernel
theorem d_M_about_34 : decode b_M_about 34 = .ok (.ifCond .eq 5, 3) := by decide +kernel
theorem d_M_about_37 : decode b_M_about 37 = .ok (.iconst 0, 1) := by decide +kernel
theorem d_M_about_38 : decode b_M_about 38 = .ok (.ireturn, 1) := by decide +kernel
theorem d_M_about_39 : decode b_M_about 39 = .ok (.iload_n 2, 1) := by decide +kernel
theorem d_M_about_40 : decode b_M_about 40 = .ok (.ifCond .ne 12, 3) := by decide +kernel
theorem d_M_about_43 : decode b_M_about 43 = .ok (.aload_n 0, 1) := by decide +kernel
theorem d_M_about_44 : decode b_M_about 44 = .ok (.getfield 16, 3) := by decide +kernel
theorem d_M_about_47 : decode b_M_about 47 = .ok (.iload_n 1, 1) := by decide +kernel
theorem d_M_about_48 : decode b_M_about 48 = .ok (.iaload, 1) := by decide +kernel
theorem d_M_about_49 : decode b_M_about 49 = .ok (.goto 45, 3) := by decide +kernel
theorem d_M_about_52 : decode b_M_about 52 = .ok (.iload_n 2, 1) := by decide +kernel
theorem d_M_about_53 : decode b_M_about 53 = .ok (.iconst 1, 1) := by decide +kernel
theorem d_M_about_54 : decode b_M_about 54 = .ok (.if_icmp .ne 12, 3) := by decide +kernel
theorem d_M_about_57 : decode b_M_about 57 = .ok (.aload_n 0, 1) := by decide +kernel
theorem d_M_about_58 : decode b_M_about 58 = .ok (.getfield 19, 3) := by decide +kernel
theorem d_M_about_61 : decode b_M_about 61 = .ok (.iload_n 1, 1) := by decide +kernel
theorem d_M_about_62 : decode b_M_about 62 = .ok (.iaload, 1) := by decide +kernel
theorem d_M_about_63 : decode b_M_about 63 = .ok (.goto 31, 3) := by decide +kernel
theorem d_M_about_66 : decode b_M_about 66 = .ok (.iload_n 2, 1) := by decide +kernel
theorem d_M_about_67 : decode b_M_about 67 = .ok (.iconst 2, 1) := by decide +kernel
theorem d_M_about_68 : decode b_M_about 68 = .ok (.if_icmp .ne 12, 3) := by decide +kernel
theorem d_M_about_71 : decode b_M_about 71 = .ok (.aload_n 0, 1) := by decide +kernel
theorem d_M_about_72 : decode b_M_about 72 = .ok (.getfield 22, 3) := by decide +kernel
theorem d_M_about_75 : decode b_M_about 75 = .ok (.iload_n 1, 1) := by decide +kernel
theorem d_M_about_76 : decode b_M_about 76 = .ok (.iaload, 1) := by decide +kernel
theorem d_M_about_77 : decode b_M_about 77 = .ok (.goto 17, 3) := by decide +kernel
theorem d_M_about_80 : decode b_M_about 80 = .ok (.iload_n 2, 1) := by decide +kernel
theorem d_M_about_81 : decode b_M_about 81 = .ok (.iconst 3, 1) := by decide +kernel
theorem d_M_about_82 : decode b_M_about 82 = .ok (.if_icmp .ne 11, 3) := by decide +kernel
theorem d_M_about_85 : decode b_M_about 85 = .ok (.aload_n 0, 1) := by decide +kernel
theorem d_M_about_86 : decode b_M_about 86 = .ok (.iload_n 1, 1) := by decide +kernel
theorem d_M_about_87 : decode b_M_about 87 = .ok (.invokevirtual 146, 3) := by decide +kernel
theorem d_M_about_90 : decode b_M_about 90 = .ok (.goto 4, 3) := by decide +kernel
theorem d_M_about_93 : decode b_M_about 93 = .ok (.iconst (-1), 1) := by decide +kernel
theorem d_M_about_94 : decode b_M_about 94 = .ok (.ireturn, 1) := by decide +kernel
theorem d_M_point_0 : decode b_M_point 0 = .ok (.iload_n 1, 1) := by decide +kernel
theorem d_M_point_1 : decode b_M_point 1 = .ok (.iconst 0, 1) := by decide +kernel
theorem d_M_point_2 : decode b_M_point 2 = .ok (.aload_n 0, 1) := by decide +kernel
theorem d_M_point_3 : decode b_M_point 3 = .ok (.getfield 83, 3) := by decide +kernel
theorem d_M_point_6 : decode b_M_point 6 = .ok (.iconst 1, 1) := by decide +kernel
theorem d_M_point_7 : decode b_M_point 7 = .ok (.isub, 1) := by decide +kernel
theorem d_M_point_8 : decode b_M_point 8 = .ok (.invokestatic 75, 3) := by decide +kernel
theorem d_M_point_11 : decode b_M_point 11 = .ok (.ifCond .eq 23, 3) := by decide +kernel
theorem d_M_point_14 : decode b_M_point 14 = .ok (.iload_n 2, 1) := by decide +kernel
theorem d_M_point_15 : decode b_M_point 15 = .ok (.iconst 0, 1) := by decide +kernel
theorem d_M_point_16 : decode b_M_point 16 = .ok (.aload_n 0, 1) := by decide +kernel
theorem d_M_point_17 : decode b_M_point 17 = .ok (.getfield 16, 3) := by decide +kernel
theorem d_M_point_20 : decode b_M_point 20 = .ok (.iload_n 1, 1) := by decide +kernel
theorem d_M_point_21 : decode b_M_point 21 = .ok (.iaload, 1) := by decide +kernel
theorem d_M_point_22 : decode b_M_point 22 = .ok (.iconst 1, 1) := by decide +kernel
theorem d_M_point_23 : decode b_M_point 23 = .ok (.isub, 1) := by decide +kernel
theorem d_M_point_24 : decode b_M_point 24 = .ok (.invokestatic 75, 3) := by decide +kernel
theorem d_M_point_27 : decode b_M_point 27 = .ok (.ifCond .eq 7, 3) := by decide +kernel
theorem d_M_point_30 : decode b_M_point 30 = .ok (.iconst 1, 1) := by decide +kernel
theorem d_M_point_31 : decode b_M_point 31 = .ok (.goto 4, 3) := by decide +kernel
theorem d_M_point_34 : decode b_M_point 34 = .ok (.iconst 0, 1) := by decide +kernel
theorem d_M_point_35 : decode b_M_point 35 = .ok (.istore 4, 2) := by decide +kernel
theorem d_M_point_37 : decode b_M_point 37 = .ok (.aload_n 0, 1) := by decide +kernel
theorem d_M_point_38 : decode b_M_point 38 = .ok (.aload_n 0, 1) := by decide +kernel
theorem d_M_point_39 : decode b_M_point 39 = .ok (.getfield 79, 3) := by decide +kernel
theorem d_M_point_42 : decode b_M_point 42 = .ok (.ifCond .ne 7, 3) := by decide +kernel
theorem d_M_point_45 : decode b_M_point 45 = .ok (.iconst 1, 1) := by decide +kernel
theorem d_M_point_46 : decode b_M_point 46 = .ok (.goto 26, 3) := by decide +kernel
theorem d_M_point_49 : decode b_M_point 49 = .ok (.iload 4, 2) := by decide +kernel
theorem d_M_point_51 : decode b_M_point 51 = .ok (.ifCond .ne 7, 3) := by decide +kernel
theorem d_M_point_54 : decode b_M_point 54 = .ok (.iconst 2, 1) := by decide +kernel
theorem d_M_point_55 : decode b_M_point 55 = .ok (.goto 17, 3) := by decide +kernel
theorem d_M_point_58 : decode b_M_point 58 = .ok (.iload_n 3, 1) := by decide +kernel
theorem d_M_point_59 : decode b_M_point 59 = .ok (.iconst 0, 1) := by decide +kernel
theorem d_M_point_60 : decode b_M_point 60 = .ok (.iconst 1, 1) := by decide +kernel
theorem d_M_point_61 : decode b_M_point 61 = .ok (.invokestatic 75, 3) := by decide +kernel
theorem d_M_point_64 : decode b_M_point 64 = .ok (.ifCond .ne 7, 3) := by decide +kernel
theorem d_M_point_67 : decode b_M_point 67 = .ok (.iconst 3, 1) := by decide +kernel
theorem d_M_point_68 : decode b_M_point 68 = .ok (.goto 4, 3) := by decide +kernel
theorem d_M_point_71 : decode b_M_point 71 = .ok (.iconst 0, 1) := by decide +kernel
theorem d_M_point_72 : decode b_M_point 72 = .ok (.invokevirtual 96, 3) := by decide +kernel
theorem d_M_point_75 : decode b_M_point 75 = .ok (.ifCond .eq 5, 3) := by decide +kernel
theorem d_M_point_78 : decode b_M_point 78 = .ok (.iconst 0, 1) := by decide +kernel
theorem d_M_point_79 : decode b_M_point 79 = .ok (.ireturn, 1) := by decide +kernel
theorem d_M_point_80 : decode b_M_point 80 = .ok (.iload_n 3, 1) := by decide +kernel
theorem d_M_point_81 : decode b_M_point 81 = .ok (.ifCond .ne 12, 3) := by decide +kernel
theorem d_M_point_84 : decode b_M_point 84 = .ok (.aload_n 0, 1) := by decide +kernel
theorem d_M_point_85 : decode b_M_point 85 = .ok (.iload_n 1, 1) := by decide +kernel
theorem d_M_point_86 : decode b_M_point 86 = .ok (.iload_n 2, 1) := by decide +kernel
theorem d_M_point_87 : decode b_M_point 87 = .ok (.invokevirtual 136, 3) := by decide +kernel
theorem d_M_point_90 : decode b_M_point 90 = .ok (.goto 9, 3) := by decide +kernel
theorem d_M_point_93 : decode b_M_point 93 = .ok (.aload_n 0, 1) := by decide +kernel
theorem d_M_point_94 : decode b_M_point 94 = .ok (.iload_n 1, 1) := by decide +kernel
theorem d_M_point_95 : decode b_M_point 95 = .ok (.iload_n 2, 1) := by decide +kernel
theorem d_M_point_96 : decode b_M_point 96 = .ok (.invokevirtual 132, 3) := by decide +kernel
theorem d_M_point_99 : decode b_M_point 99 = .ok (.ireturn, 1) := by decide +kernel
theorem d_M_covered_0 : decode b_M_covered 0 = .ok (.aload_n 0, 1) := by decide +kernel
theorem d_M_covered_1 : decode b_M_covered 1 = .ok (.aload_n 0, 1) := by decide +kernel
theorem d_M_covered_2 : decode b_M_covered 2 = .ok (.getfield 79, 3) := by decide +kernel
theorem d_M_covered_5 : decode b_M_covered 5 = .ok (.ifCond .ne 7, 3) := by decide +kernel
theorem d_M_covered_8 : decode b_M_covered 8 = .ok (.iconst 1, 1) := by decide +kernel
theorem d_M_covered_9 : decode b_M_covered 9 = .ok (.goto 17, 3) := by decide +kernel
theorem d_M_covered_12 : decode b_M_covered 12 = .ok (.aload_n 0, 1) := by decide +kernel
theorem d_M_covered_13 : decode b_M_covered 13 = .ok (.iload_n 1, 1) := by decide +kernel
theorem d_M_covered_14 : decode b_M_covered 14 = .ok (.iload_n 2, 1) := by decide +kernel
theorem d_M_covered_15 : decode b_M_covered 15 = .ok (.invokevirtual 92, 3) := by decide +kernel
theorem d_M_covered_18 : decode b_M_covered 18 = .ok (.ifCond .ne 7, 3) := by decide +kernel
theorem d_M_covered_21 : decode b_M_covered 21 = .ok (.iconst 2, 1) := by decide +kernel
theorem d_M_covered_22 : decode b_M_covered 22 = .ok (.goto 4, 3) := by decide +kernel
theorem d_M_covered_25 : decode b_M_covered 25 = .ok (.iconst 0, 1) := by decide +kernel
theorem d_M_covered_26 : decode b_M_covered 26 = .ok (.invokevirtual 96, 3) := by decide +kernel
theorem d_M_covered_29 : decode b_M_covered 29 = .ok (.ifCond .eq 5, 3) := by decide +kernel
theorem d_M_covered_32 : decode b_M_covered 32 = .ok (.iconst 0, 1) := by decide +kernel
theorem d_M_covered_33 : decode b_M_covered 33 = .ok (.ireturn, 1) := by decide +kernel
theorem d_M_covered_34 : decode b_M_covered 34 = .ok (.iconst 0, 1) := by decide +kernel
theorem d_M_covered_35 : decode b_M_covered 35 = .ok (.istore_n 3, 1) := by decide +kernel
theorem d_M_covered_36 : decode b_M_covered 36 = .ok (.iconst 1, 1) := by decide +kernel
theorem d_M_covered_37 : decode b_M_covered 37 = .ok (.istore 4, 2) := by decide +kernel
theorem d_M_covered_39 : decode b_M_covered 39 = .ok (.iload 4, 2) := by decide +kernel
theorem d_M_covered_41 : decode b_M_covered 41 = .ok (.bipush 8, 2) := by decide +kernel
theorem d_M_covered_43 : decode b_M_covered 43 = .ok (.if_icmp .ge 74, 3) := by decide +kernel
theorem d_M_covered_46 : decode b_M_covered 46 = .ok (.iconst 0, 1) := by decide +kernel
theorem d_M_covered_47 : decode b_M_covered 47 = .ok (.istore 5, 2) := by decide +kernel
theorem d_M_covered_49 : decode b_M_covered 49 = .ok (.iconst 0, 1) := by decide +kernel
theorem d_M_covered_50 : decode b_M_covered 50 = .ok (.istore 6, 2) := by decide +kernel
theorem d_M_covered_52 : decode b_M_covered 52 = .ok (.iload 6, 2) := by decide +kernel
theorem d_M_covered_54 : decode b_M_covered 54 = .ok (.aload_n 0, 1) := by decide +kernel
theorem d_M_covered_55 : decode b_M_covered 55 = .ok (.getfield 83, 3) := by decide +kernel
theorem d_M_covered_58 : decode b_M_covered 58 = .ok (.if_icmp .ge 38, 3) := by decide +kernel
theorem d_M_covered_61 : decode b_M_covered 61 = .ok (.iload 5, 2) := by decide +kernel
theorem d_M_covered_63 : decode b_M_covered 63 = .ok (.aload_n 0, 1) := by decide +kernel
theorem d_M_covered_64 : decode b_M_covered 64 = .ok (.getfield 19, 3) := by decide +kernel
theorem d_M_covered_67 : decode b_M_covered 67 = .ok (.iload 6, 2) := by decide +kernel
theorem d_M_covered_69 : decode b_M_covered 69 = .ok (.iaload, 1) := by decide +kernel
theorem d_M_covered_70 : decode b_M_covered 70 = .ok (.iload 4, 2) := by decide +kernel
theorem d_M_covered_72 : decode b_M_covered 72 = .ok (.if_icmp .ne 14, 3) := by decide +kernel
theorem d_M_covered_75 : decode b_M_covered 75 = .ok (.aload_n 0, 1) := by decide +kernel
theorem d_M_covered_76 : decode b_M_covered 76 = .ok (.iload 6, 2) := by decide +kernel
theorem d_M_covered_78 : decode b_M_covered 78 = .ok (.iload_n 1, 1) := by decide +kernel
theorem d_M_covered_79 : decode b_M_covered 79 = .ok (.iload_n 2, 1) := by decide +kernel
theorem d_M_covered_80 : decode b_M_covered 80 = .ok (.invokevirtual 139, 3) := by decide +kernel
theorem d_M_covered_83 : decode b_M_covered 83 = .ok (.goto 4, 3) := by decide +kernel
theorem d_M_covered_86 : decode b_M_covered 86 = .ok (.iconst 0, 1) := by decide +kernel
theorem d_M_covered_87 : decode b_M_covered 87 = .ok (.iadd, 1) := by decide +kernel
theorem d_M_covered_88 : decode b_M_covered 88 = .ok (.istore 5, 2) := by decide +kernel
theorem d_M_covered_90 : decode b_M_covered 90 = .ok (.iinc 6 1, 3) := by decide +kernel
theorem d_M_covered_93 : decode b_M_covered 93 = .ok (.goto (-41), 3) := by decide +kernel
theorem d_M_covered_96 : decode b_M_covered 96 = .ok (.iload 5, 2) := by decide +kernel
theorem d_M_covered_98 : decode b_M_covered 98 = .ok (.iconst 2, 1) := by decide +kernel
theorem d_M_covered_99 : decode b_M_covered 99 = .ok (.irem, 1) := by decide +kernel
theorem d_M_covered_100 : decode b_M_covered 100 = .ok (.iconst 1, 1) := by decide +kernel
theorem d_M_covered_101 : decode b_M_covered 101 = .ok (.if_icmp .ne 8, 3) := by decide +kernel
theorem d_M_covered_104 : decode b_M_covered 104 = .ok (.iload 4, 2) := by decide +kernel
theorem d_M_covered_106 : decode b_M_covered 106 = .ok (.goto 4, 3) := by decide +kernel
theorem d_M_covered_109 : decode b_M_covered 109 = .ok (.iload_n 3, 1) := by decide +kernel
theorem d_M_covered_110 : decode b_M_covered 110 = .ok (.istore_n 3, 1) := by decide +kernel
theorem d_M_covered_111 : decode b_M_covered 111 = .ok (.iinc 4 1, 3) := by decide +kernel
theorem d_M_covered_114 : decode b_M_covered 114 = .ok (.goto (-75), 3) := by decide +kernel
theorem d_M_covered_117 : decode b_M_covered 117 = .ok (.iload_n 3, 1) := by decide +kernel
theorem d_M_covered_118 : decode b_M_covered 118 = .ok (.ireturn, 1) := by decide +kernel
theorem d_M_apart_0 : decode b_M_apart 0 = .ok (.iload_n 0, 1) := by decide +kernel
theorem d_M_apart_1 : decode b_M_apart 1 = .ok (.iload_n 1, 1) := by decide +kernel
theorem d_M_apart_2 : decode b_M_apart 2 = .ok (.if_icmp .ge 9, 3) := by decide +kernel
theorem d_M_apart_5 : decode b_M_apart 5 = .ok (.iload_n 1, 1) := by decide +kernel
theorem d_M_apart_6 : decode b_M_apart 6 = .ok (.iload_n 0, 1) := by decide +kernel
theorem d_M_apart_7 : decode b_M_apart 7 = .ok (.isub, 1) := by decide +kernel
theorem d_M_apart_8 : decode b_M_apart 8 = .ok (.goto 6, 3) := by decide +kernel
theorem d_M_apart_11 : decode b_M_apart 11 = .ok (.iload_n 0, 1) := by decide +kernel
theorem d_M_apart_12 : decode b_M_apart 12 = .ok (.iload_n 1, 1) := by decide +kernel
theorem d_M_apart_13 : decode b_M_apart 13 = .ok (.isub, 1) := by decide +kernel
theorem d_M_apart_14 : decode b_M_apart 14 = .ok (.ireturn, 1) := by decide +kernel
theorem d_M_costOf_0 : decode b_M_costOf 0 = .ok (.iload_n 3, 1) := by decide +kernel
theorem d_M_costOf_1 : decode b_M_costOf 1 = .ok (.iconst 1, 1) := by decide +kernel
theorem d_M_costOf_2 : decode b_M_costOf 2 = .ok (.if_icmp .ne 5, 3) := by decide +kernel
theorem d_M_costOf_5 : decode b_M_costOf 5 = .ok (.iconst 0, 1) := by decide +kernel
theorem d_M_costOf_6 : decode b_M_costOf 6 = .ok (.ireturn, 1) := by decide +kernel
theorem d_M_costOf_7 : decode b_M_costOf 7 = .ok (.aload_n 0, 1) := by decide +kernel
theorem d_M_costOf_8 : decode b_M_costOf 8 = .ok (.iload_n 1, 1) := by decide +kernel
theorem d_M_costOf_9 : decode b_M_costOf 9 = .ok (.iload_n 2, 1) := by decide +kernel
theorem d_M_costOf_10 : decode b_M_costOf 10 = .ok (.invokevirtual 136, 3) := by decide +kernel
theorem d_M_costOf_13 : decode b_M_costOf 13 = .ok (.istore 5, 2) := by decide +kernel
theorem d_M_costOf_15 : decode b_M_costOf 15 = .ok (.aload_n 0, 1) := by decide +kernel
theorem d_M_costOf_16 : decode b_M_costOf 16 = .ok (.iload_n 1, 1) := by decide +kernel
theorem d_M_costOf_17 : decode b_M_costOf 17 = .ok (.iload_n 2, 1) := by decide +kernel
theorem d_M_costOf_18 : decode b_M_costOf 18 = .ok (.invokevirtual 132, 3) := by decide +kernel
theorem d_M_costOf_21 : decode b_M_costOf 21 = .ok (.istore 6, 2) := by decide +kernel
theorem d_M_costOf_23 : decode b_M_costOf 23 = .ok (.aload_n 0, 1) := by decide +kernel
theorem d_M_costOf_24 : decode b_M_costOf 24 = .ok (.iload_n 1, 1) := by decide +kernel
theorem d_M_costOf_25 : decode b_M_costOf 25 = .ok (.iload_n 2, 1) := by decide +kernel
theorem d_M_costOf_26 : decode b_M_costOf 26 = .ok (.iload_n 3, 1) := by decide +kernel
theorem d_M_costOf_27 : decode b_M_costOf 27 = .ok (.iadd, 1) := by decide +kernel
theorem d_M_costOf_28 : decode b_M_costOf 28 = .ok (.invokevirtual 136, 3) := by decide +kernel
theorem d_M_costOf_31 : decode b_M_costOf 31 = .ok (.istore 7, 2) := by decide +kernel
theorem d_M_costOf_33 : decode b_M_costOf 33 = .ok (.aload_n 0, 1) := by decide +kernel
theorem d_M_costOf_34 : decode b_M_costOf 34 = .ok (.iload_n 1, 1) := by decide +kernel
theorem d_M_costOf_35 : decode b_M_costOf 35 = .ok (.iload_n 2, 1) := by decide +kernel
theorem d_M_costOf_36 : decode b_M_costOf 36 = .ok (.iload_n 3, 1) := by decide +kernel
theorem d_M_costOf_37 : decode b_M_costOf 37 = .ok (.iadd, 1) := by decide +kernel
theorem d_M_costOf_38 : decode b_M_costOf 38 = .ok (.invokevirtual 132, 3) := by decide +kernel
theorem d_M_costOf_41 : decode b_M_costOf 41 = .ok (.istore 8, 2) := by decide +kernel
theorem d_M_costOf_43 : decode b_M_costOf 43 = .ok (.iload 5, 2) := by decide +kernel
theorem d_M_costOf_45 : decode b_M_costOf 45 = .ok (.iload 7, 2) := by decide +kernel
theorem d_M_costOf_47 : decode b_M_costOf 47 = .ok (.invokestatic 149, 3) := by decide +kernel
theorem d_M_costOf_50 : decode b_M_costOf 50 = .ok (.istore 9, 2) := by decide +kernel
theorem d_M_costOf_52 : decode b_M_costOf 52 = .ok (.iload 6, 2) := by decide +kernel
theorem d_M_costOf_54 : decode b_M_costOf 54 = .ok (.iload 8, 2) := by decide +kernel
theorem d_M_costOf_56 : decode b_M_costOf 56 = .ok (.invokestatic 149, 3) := by decide +kernel
theorem d_M_costOf_59 : decode b_M_costOf 59 = .ok (.istore 10, 2) := by decide +kernel
theorem d_M_costOf_61 : decode b_M_costOf 61 = .ok (.iload 4, 2) := by decide +kernel
theorem d_M_costOf_63 : decode b_M_costOf 63 = .ok (.iload 9, 2) := by decide +kernel
theorem d_M_costOf_65 : decode b_M_costOf 65 = .ok (.iload 10, 2) := by decide +kernel
theorem d_M_costOf_67 : decode b_M_costOf 67 = .ok (.if_icmp .le 8, 3) := by decide +kernel
theorem d_M_costOf_70 : decode b_M_costOf 70 = .ok (.iload 9, 2) := by decide +kernel
theorem d_M_costOf_72 : decode b_M_costOf 72 = .ok (.goto 5, 3) := by decide +kernel
theorem d_M_costOf_75 : decode b_M_costOf 75 = .ok (.iload 10, 2) := by decide +kernel
theorem d_M_costOf_77 : decode b_M_costOf 77 = .ok (.imul, 1) := by decide +kernel
theorem d_M_costOf_78 : decode b_M_costOf 78 = .ok (.istore 11, 2) := by decide +kernel
theorem d_M_costOf_80 : decode b_M_costOf 80 = .ok (.iconst 0, 1) := by decide +kernel
theorem d_M_costOf_81 : decode b_M_costOf 81 = .ok (.istore 12, 2) := by decide +kernel
theorem d_M_costOf_83 : decode b_M_costOf 83 = .ok (.iconst 0, 1) := by decide +kernel
theorem d_M_costOf_84 : decode b_M_costOf 84 = .ok (.istore 13, 2) := by decide +kernel
theorem d_M_costOf_86 : decode b_M_costOf 86 = .ok (.iconst 0, 1) := by decide +kernel
theorem d_M_costOf_87 : decode b_M_costOf 87 = .ok (.istore 14, 2) := by decide +kernel
theorem d_M_costOf_89 : decode b_M_costOf 89 = .ok (.iload 14, 2) := by decide +kernel
theorem d_M_costOf_91 : decode b_M_costOf 91 = .ok (.iload_n 3, 1) := by decide +kernel
theorem d_M_costOf_92 : decode b_M_costOf 92 = .ok (.if_icmp .ge 155, 3) := by decide +kernel
theorem d_M_costOf_95 : decode b_M_costOf 95 = .ok (.aload_n 0, 1) := by decide +kernel
theorem d_M_costOf_96 : decode b_M_costOf 96 = .ok (.iload_n 1, 1) := by decide +kernel
theorem d_M_costOf_97 : decode b_M_costOf 97 = .ok (.iload_n 2, 1) := by decide +kernel
theorem d_M_costOf_98 : decode b_M_costOf 98 = .ok (.iload 14, 2) := by decide +kernel
theorem d_M_costOf_100 : decode b_M_costOf 100 = .ok (.iadd, 1) := by decide +kernel
theorem d_M_costOf_101 : decode b_M_costOf 101 = .ok (.invokevirtual 136, 3) := by decide +kernel
theorem d_M_costOf_104 : decode b_M_costOf 104 = .ok (.istore 15, 2) := by decide +kernel
theorem d_M_costOf_106 : decode b_M_costOf 106 = .ok (.aload_n 0, 1) := by decide +kernel
theorem d_M_costOf_107 : decode b_M_costOf 107 = .ok (.iload_n 1, 1) := by decide +kernel
theorem d_M_costOf_108 : decode b_M_costOf 108 = .ok (.iload_n 2, 1) := by decide +kernel
theorem d_M_costOf_109 : decode b_M_costOf 109 = .ok (.iload 14, 2) := by decide +kernel
theorem d_M_costOf_111 : decode b_M_costOf 111 = .ok (.iadd, 1) := by decide +kernel
theorem d_M_costOf_112 : decode b_M_costOf 112 = .ok (.invokevirtual 132, 3) := by decide +kernel
theorem d_M_costOf_115 : decode b_M_costOf 115 = .ok (.istore 16, 2) := by decide +kernel
theorem d_M_costOf_117 : decode b_M_costOf 117 = .ok (.iload 7, 2) := by decide +kernel
theorem d_M_costOf_119 : decode b_M_costOf 119 = .ok (.iload 5, 2) := by decide +kernel
theorem d_M_costOf_121 : decode b_M_costOf 121 = .ok (.isub, 1) := by decide +kernel
theorem d_M_costOf_122 : decode b_M_costOf 122 = .ok (.iload 16, 2) := by decide +kernel
theorem d_M_costOf_124 : decode b_M_costOf 124 = .ok (.iload 6, 2) := by decide +kernel
theorem d_M_costOf_126 : decode b_M_costOf 126 = .ok (.isub, 1) := by decide +kernel
theorem d_M_costOf_127 : decode b_M_costOf 127 = .ok (.imul, 1) := by decide +kernel
theorem d_M_costOf_128 : decode b_M_costOf 128 = .ok (.iload 8, 2) := by decide +kernel
theorem d_M_costOf_130 : decode b_M_costOf 130 = .ok (.iload 6, 2) := by decide +kernel
theorem d_M_costOf_132 : decode b_M_costOf 132 = .ok (.isub, 1) := by decide +kernel
theorem d_M_costOf_133 : decode b_M_costOf 133 = .ok (.iload 15, 2) := by decide +kernel
theorem d_M_costOf_135 : decode b_M_costOf 135 = .ok (.iload 5, 2) := by decide +kernel
theorem d_M_costOf_137 : decode b_M_costOf 137 = .ok (.isub, 1) := by decide +kernel
theorem d_M_costOf_138 : decode b_M_costOf 138 = .ok (.imul, 1) := by decide +kernel
theorem d_M_costOf_139 : decode b_M_costOf 139 = .ok (.isub, 1) := by decide +kernel
theorem d_M_costOf_140 : decode b_M_costOf 140 = .ok (.istore 17, 2) := by decide +kernel
theorem d_M_costOf_142 : decode b_M_costOf 142 = .ok (.iload 17, 2) := by decide +kernel
theorem d_M_costOf_144 : decode b_M_costOf 144 = .ok (.ifCond .ge 9, 3) := by decide +kernel
theorem d_M_costOf_147 : decode b_M_costOf 147 = .ok (.iload 17, 2) := by decide +kernel
theorem d_M_costOf_149 : decode b_M_costOf 149 = .ok (.ineg, 1) := by decide +kernel
theorem d_M_costOf_150 : decode b_M_costOf 150 = .ok (.goto 5, 3) := by decide +kernel
theorem d_M_costOf_153 : decode b_M_costOf 153 = .ok (.iload 17, 2) := by decide +kernel
theorem d_M_costOf_155 : decode b_M_costOf 155 = .ok (.istore 18, 2) := by decide +kernel
theorem d_M_costOf_157 : decode b_M_costOf 157 = .ok (.iconst 2, 1) := by decide +kernel
theorem d_M_costOf_158 : decode b_M_costOf 158 = .ok (.iload 18, 2) := by decide +kernel
theorem d_M_costOf_160 : decode b_M_costOf 160 = .ok (.imul, 1) := by decide +kernel
theorem d_M_costOf_161 : decode b_M_costOf 161 = .ok (.iload 11, 2) := by decide +kernel
theorem d_M_costOf_163 : decode b_M_costOf 163 = .ok (.if_icmp .le 5, 3) := by decide +kernel
theorem d_M_costOf_166 : decode b_M_costOf 166 = .ok (.iconst (-1), 1) := by decide +kernel
theorem d_M_costOf_167 : decode b_M_costOf 167 = .ok (.ireturn, 1) := by decide +kernel
theorem d_M_costOf_168 : decode b_M_costOf 168 = .ok (.iload 13, 2) := by decide +kernel
theorem d_M_costOf_170 : decode b_M_costOf 170 = .ok (.iload 18, 2) := by decide +kernel
theorem d_M_costOf_172 : decode b_M_costOf 172 = .ok (.iadd, 1) := by decide +kernel
theorem d_M_costOf_173 : decode b_M_costOf 173 = .ok (.istore 13, 2) := by decide +kernel
theorem d_M_costOf_175 : decode b_M_costOf 175 = .ok (.aload_n 0, 1) := by decide +kernel
theorem d_M_costOf_176 : decode b_M_costOf 176 = .ok (.iload_n 1, 1) := by decide +kernel
theorem d_M_costOf_177 : decode b_M_costOf 177 = .ok (.iload_n 2, 1) := by decide +kernel
theorem d_M_costOf_178 : decode b_M_costOf 178 = .ok (.iload 14, 2) := by decide +kernel
theorem d_M_costOf_180 : decode b_M_costOf 180 = .ok (.iadd, 1) := by decide +kernel
theorem d_M_costOf_181 : decode b_M_costOf 181 = .ok (.iconst 1, 1) := by decide +kernel
theorem d_M_costOf_182 : decode b_M_costOf 182 = .ok (.iadd, 1) := by decide +kernel
theorem d_M_costOf_183 : decode b_M_costOf 183 = .ok (.invokevirtual 136, 3) := by decide +kernel
theorem d_M_costOf_186 : decode b_M_costOf 186 = .ok (.iload 15, 2) := by decide +kernel
theorem d_M_costOf_188 : decode b_M_costOf 188 = .ok (.isub, 1) := by decide +kernel
theorem d_M_costOf_189 : decode b_M_costOf 189 = .ok (.istore 19, 2) := by decide +kernel
theorem d_M_costOf_191 : decode b_M_costOf 191 = .ok (.aload_n 0, 1) := by decide +kernel
theorem d_M_costOf_192 : decode b_M_costOf 192 = .ok (.iload_n 1, 1) := by decide +kernel
theorem d_M_costOf_193 : decode b_M_costOf 193 = .ok (.iload_n 2, 1) := by decide +kernel
theorem d_M_costOf_194 : decode b_M_costOf 194 = .ok (.iload 14, 2) := by decide +kernel
theorem d_M_costOf_196 : decode b_M_costOf 196 = .ok (.iadd, 1) := by decide +kernel
theorem d_M_costOf_197 : decode b_M_costOf 197 = .ok (.iconst 1, 1) := by decide +kernel
theorem d_M_costOf_198 : decode b_M_costOf 198 = .ok (.iadd, 1) := by decide +kernel
theorem d_M_costOf_199 : decode b_M_costOf 199 = .ok (.invokevirtual 132, 3) := by decide +kernel
theorem d_M_costOf_202 : decode b_M_costOf 202 = .ok (.iload 16, 2) := by decide +kernel
theorem d_M_costOf_204 : decode b_M_costOf 204 = .ok (.isub, 1) := by decide +kernel
theorem d_M_costOf_205 : decode b_M_costOf 205 = .ok (.istore 20, 2) := by decide +kernel
theorem d_M_costOf_207 : decode b_M_costOf 207 = .ok (.iload 12, 2) := by decide +kernel
theorem d_M_costOf_209 : decode b_M_costOf 209 = .ok (.iload 19, 2) := by decide +kernel
theorem d_M_costOf_211 : decode b_M_costOf 211 = .ok (.ifCond .le 7, 3) := by decide +kernel
theorem d_M_costOf_214 : decode b_M_costOf 214 = .ok (.iconst 1, 1) := by decide +kernel
theorem d_M_costOf_215 : decode b_M_costOf 215 = .ok (.goto 23, 3) := by decide +kernel
theorem d_M_costOf_218 : decode b_M_costOf 218 = .ok (.iload 19, 2) := by decide +kernel
theorem d_M_costOf_220 : decode b_M_costOf 220 = .ok (.ifCond .ge 7, 3) := by decide +kernel
theorem d_M_costOf_223 : decode b_M_costOf 223 = .ok (.iconst 2, 1) := by decide +kernel
theorem d_M_costOf_224 : decode b_M_costOf 224 = .ok (.goto 14, 3) := by decide +kernel
theorem d_M_costOf_227 : decode b_M_costOf 227 = .ok (.iload 20, 2) := by decide +kernel
theorem d_M_costOf_229 : decode b_M_costOf 229 = .ok (.ifCond .le 7, 3) := by decide +kernel
theorem d_M_costOf_232 : decode b_M_costOf 232 = .ok (.iconst 4, 1) := by decide +kernel
theorem d_M_costOf_233 : decode b_M_costOf 233 = .ok (.goto 5, 3) := by decide +kernel
theorem d_M_costOf_236 : decode b_M_costOf 236 = .ok (.bipush 8, 2) := by decide +kernel
theorem d_M_costOf_238 : decode b_M_costOf 238 = .ok (.ior, 1) := by decide +kernel
theorem d_M_costOf_239 : decode b_M_costOf 239 = .ok (.istore 12, 2) := by decide +kernel
theorem d_M_costOf_241 : decode b_M_costOf 241 = .ok (.iinc 14 1, 3) := by decide +kernel
theorem d_M_costOf_244 : decode b_M_costOf 244 = .ok (.goto (-155), 3) := by decide +kernel
theorem d_M_costOf_247 : decode b_M_costOf 247 = .ok (.iload 12, 2) := by decide +kernel
theorem d_M_costOf_249 : decode b_M_costOf 249 = .ok (.bipush 15, 2) := by decide +kernel
theorem d_M_costOf_251 : decode b_M_costOf 251 = .ok (.if_icmp .ne 7, 3) := by decide +kernel
theorem d_M_costOf_254 : decode b_M_costOf 254 = .ok (.iconst (-1), 1) := by decide +kernel
theorem d_M_costOf_255 : decode b_M_costOf 255 = .ok (.goto 5, 3) := by decide +kernel
theorem d_M_costOf_258 : decode b_M_costOf 258 = .ok (.iload 13, 2) := by decide +kernel
theorem d_M_costOf_260 : decode b_M_costOf 260 = .ok (.ireturn, 1) := by decide +kernel
theorem d_M_piece_0 : decode b_M_piece 0 = .ok (.iload_n 1, 1) := by decide +kernel
theorem d_M_piece_1 : decode b_M_piece 1 = .ok (.iconst 0, 1) := by decide +kernel
theorem d_M_piece_2 : decode b_M_piece 2 = .ok (.aload_n 0, 1) := by decide +kernel
theorem d_M_piece_3 : decode b_M_piece 3 = .ok (.getfield 83, 3) := by decide +kernel
theorem d_M_piece_6 : decode b_M_piece 6 = .ok (.iconst 1, 1) := by decide +kernel
theorem d_M_piece_7 : decode b_M_piece 7 = .ok (.isub, 1) := by decide +kernel
theorem d_M_piece_8 : decode b_M_piece 8 = .ok (.invokestatic 75, 3) := by decide +kernel
theorem d_M_piece_11 : decode b_M_piece 11 = .ok (.ifCond .eq 23, 3) := by decide +kernel
theorem d_M_piece_14 : decode b_M_piece 14 = .ok (.iload_n 2, 1) := by decide +kernel
theorem d_M_piece_15 : decode b_M_piece 15 = .ok (.iconst 0, 1) := by decide +kernel
theorem d_M_piece_16 : decode b_M_piece 16 = .ok (.aload_n 0, 1) := by decide +kernel
theorem d_M_piece_17 : decode b_M_piece 17 = .ok (.getfield 16, 3) := by decide +kernel
theorem d_M_piece_20 : decode b_M_piece 20 = .ok (.iload_n 1, 1) := by decide +kernel
theorem d_M_piece_21 : decode b_M_piece 21 = .ok (.iaload, 1) := by decide +kernel
theorem d_M_piece_22 : decode b_M_piece 22 = .ok (.iconst 1, 1) := by decide +kernel
theorem d_M_piece_23 : decode b_M_piece 23 = .ok (.isub, 1) := by decide +kernel
theorem d_M_piece_24 : decode b_M_piece 24 = .ok (.invokestatic 75, 3) := by decide +kernel
theorem d_M_piece_27 : decode b_M_piece 27 = .ok (.ifCond .eq 7, 3) := by decide +kernel
theorem d_M_piece_30 : decode b_M_piece 30 = .ok (.iconst 1, 1) := by decide +kernel
theorem d_M_piece_31 : decode b_M_piece 31 = .ok (.goto 4, 3) := by decide +kernel
theorem d_M_piece_34 : decode b_M_piece 34 = .ok (.iconst 0, 1) := by decide +kernel
theorem d_M_piece_35 : decode b_M_piece 35 = .ok (.istore 5, 2) := by decide +kernel
theorem d_M_piece_37 : decode b_M_piece 37 = .ok (.aload_n 0, 1) := by decide +kernel
theorem d_M_piece_38 : decode b_M_piece 38 = .ok (.aload_n 0, 1) := by decide +kernel
theorem d_M_piece_39 : decode b_M_piece 39 = .ok (.getfield 79, 3) := by decide +kernel
theorem d_M_piece_42 : decode b_M_piece 42 = .ok (.ifCond .ne 7, 3) := by decide +kernel
theorem d_M_piece_45 : decode b_M_piece 45 = .ok (.iconst 1, 1) := by decide +kernel
theorem d_M_piece_46 : decode b_M_piece 46 = .ok (.goto 38, 3) := by decide +kernel
theorem d_M_piece_49 : decode b_M_piece 49 = .ok (.iload 5, 2) := by decide +kernel
theorem d_M_piece_51 : decode b_M_piece 51 = .ok (.ifCond .ne 7, 3) := by decide +kernel
theorem d_M_piece_54 : decode b_M_piece 54 = .ok (.iconst 2, 1) := by decide +kernel
theorem d_M_piece_55 : decode b_M_piece 55 = .ok (.goto 29, 3) := by decide +kernel
theorem d_M_piece_58 : decode b_M_piece 58 = .ok (.iload_n 3, 1) := by decide +kernel
theorem d_M_piece_59 : decode b_M_piece 59 = .ok (.iconst 1, 1) := by decide +kernel
theorem d_M_piece_60 : decode b_M_piece 60 = .ok (.bipush 24, 2) := by decide +kernel
theorem d_M_piece_62 : decode b_M_piece 62 = .ok (.invokestatic 75, 3) := by decide +kernel
theorem d_M_piece_65 : decode b_M_piece 65 = .ok (.ifCond .eq 14, 3) := by decide +kernel
theorem d_M_piece_68 : decode b_M_piece 68 = .ok (.iload 4, 2) := by decide +kernel
theorem d_M_piece_70 : decode b_M_piece 70 = .ok (.iconst 1, 1) := by decide +kernel
theorem d_M_piece_71 : decode b_M_piece 71 = .ok (.bipush 8, 2) := by decide +kernel
theorem d_M_piece_73 : decode b_M_piece 73 = .ok (.invokestatic 75, 3) := by decide +kernel
theorem d_M_piece_76 : decode b_M_piece 76 = .ok (.ifCond .ne 7, 3) := by decide +kernel
theorem d_M_piece_79 : decode b_M_piece 79 = .ok (.iconst 3, 1) := by decide +kernel
theorem d_M_piece_80 : decode b_M_piece 80 = .ok (.goto 4, 3) := by decide +kernel
theorem d_M_piece_83 : decode b_M_piece 83 = .ok (.iconst 0, 1) := by decide +kernel
theorem d_M_piece_84 : decode b_M_piece 84 = .ok (.invokevirtual 96, 3) := by decide +kernel
theorem d_M_piece_87 : decode b_M_piece 87 = .ok (.ifCond .eq 5, 3) := by decide +kernel
theorem d_M_piece_90 : decode b_M_piece 90 = .ok (.iconst 0, 1) := by decide +kernel
theorem d_M_piece_91 : decode b_M_piece 91 = .ok (.ireturn, 1) := by decide +kernel
theorem d_M_piece_92 : decode b_M_piece 92 = .ok (.aload_n 0, 1) := by decide +kernel
theorem d_M_piece_93 : decode b_M_piece 93 = .ok (.iload_n 1, 1) := by decide +kernel
theorem d_M_piece_94 : decode b_M_piece 94 = .ok (.iload_n 2, 1) := by decide +kernel
theorem d_M_piece_95 : decode b_M_piece 95 = .ok (.iload_n 3, 1) := by decide +kernel
theorem d_M_piece_96 : decode b_M_piece 96 = .ok (.iload 4, 2) := by decide +kernel
theorem d_M_piece_98 : decode b_M_piece 98 = .ok (.invokevirtual 152, 3) := by decide +kernel
theorem d_M_piece_101 : decode b_M_piece 101 = .ok (.ireturn, 1) := by decide +kernel
theorem d_M_isLess_0 : decode b_M_isLess 0 = .ok (.iload_n 0, 1) := by decide +kernel
theorem d_M_isLess_1 : decode b_M_isLess 1 = .ok (.iload_n 2, 1) := by decide +kernel
theorem d_M_isLess_2 : decode b_M_isLess 2 = .ok (.if_icmp .lt 13, 3) := by decide +kernel
theorem d_M_isLess_5 : decode b_M_isLess 5 = .ok (.iload_n 0, 1) := by decide +kernel
theorem d_M_isLess_6 : decode b_M_isLess 6 = .ok (.iload_n 2, 1) := by decide +kernel
theorem d_M_isLess_7 : decode b_M_isLess 7 = .ok (.if_icmp .ne 12, 3) := by decide +kernel
theorem d_M_isLess_10 : decode b_M_isLess 10 = .ok (.iload_n 1, 1) := by decide +kernel
theorem d_M_isLess_11 : decode b_M_isLess 11 = .ok (.iload_n 3, 1) := by decide +kernel
theorem d_M_isLess_12 : decode b_M_isLess 12 = .ok (.if_icmp .ge 7, 3) := by decide +kernel
theorem d_M_isLess_15 : decode b_M_isLess 15 = .ok (.iconst 1, 1) := by decide +kernel
theorem d_M_isLess_16 : decode b_M_isLess 16 = .ok (.goto 4, 3) := by decide +kernel
theorem d_M_isLess_19 : decode b_M_isLess 19 = .ok (.iconst 0, 1) := by decide +kernel
theorem d_M_isLess_20 : decode b_M_isLess 20 = .ok (.ireturn, 1) := by decide +kernel
theorem d_M_fill_0 : decode b_M_fill 0 = .ok (.aload_n 0, 1) := by decide +kernel
theorem d_M_fill_1 : decode b_M_fill 1 = .ok (.getfield 16, 3) := by decide +kernel
theorem d_M_fill_4 : decode b_M_fill 4 = .ok (.iload_n 1, 1) := by decide +kernel
theorem d_M_fill_5 : decode b_M_fill 5 = .ok (.iaload, 1) := by decide +kernel
theorem d_M_fill_6 : decode b_M_fill 6 = .ok (.istore 4, 2) := by decide +kernel
theorem d_M_fill_8 : decode b_M_fill 8 = .ok (.iload_n 2, 1) := by decide +kernel
theorem d_M_fill_9 : decode b_M_fill 9 = .ok (.iload 4, 2) := by decide +kernel
theorem d_M_fill_11 : decode b_M_fill 11 = .ok (.iadd, 1) := by decide +kernel
theorem d_M_fill_12 : decode b_M_fill 12 = .ok (.istore 5, 2) := by decide +kernel
theorem d_M_fill_14 : decode b_M_fill 14 = .ok (.iconst 0, 1) := by decide +kernel
theorem d_M_fill_15 : decode b_M_fill 15 = .ok (.istore 6, 2) := by decide +kernel
theorem d_M_fill_17 : decode b_M_fill 17 = .ok (.iload 6, 2) := by decide +kernel
theorem d_M_fill_19 : decode b_M_fill 19 = .ok (.iconst 4, 1) := by decide +kernel
theorem d_M_fill_20 : decode b_M_fill 20 = .ok (.if_icmp .ge 49, 3) := by decide +kernel
theorem d_M_fill_23 : decode b_M_fill 23 = .ok (.aload_n 0, 1) := by decide +kernel
theorem d_M_fill_24 : decode b_M_fill 24 = .ok (.getfield 38, 3) := by decide +kernel
theorem d_M_fill_27 : decode b_M_fill 27 = .ok (.sipush 600, 3) := by decide +kernel
theorem d_M_fill_30 : decode b_M_fill 30 = .ok (.iload 6, 2) := by decide +kernel
theorem d_M_fill_32 : decode b_M_fill 32 = .ok (.imul, 1) := by decide +kernel
theorem d_M_fill_33 : decode b_M_fill 33 = .ok (.iload 5, 2) := by decide +kernel
theorem d_M_fill_35 : decode b_M_fill 35 = .ok (.iadd, 1) := by decide +kernel
theorem d_M_fill_36 : decode b_M_fill 36 = .ok (.iload 6, 2) := by decide +kernel
theorem d_M_fill_38 : decode b_M_fill 38 = .ok (.ifCond .ne 7, 3) := by decide +kernel
theorem d_M_fill_41 : decode b_M_fill 41 = .ok (.iconst 0, 1) := by decide +kernel
theorem d_M_fill_42 : decode b_M_fill 42 = .ok (.goto 5, 3) := by decide +kernel
theorem d_M_fill_45 : decode b_M_fill 45 = .ok (.ldc 156, 2) := by decide +kernel
theorem d_M_fill_47 : decode b_M_fill 47 = .ok (.iastore, 1) := by decide +kernel
theorem d_M_fill_48 : decode b_M_fill 48 = .ok (.aload_n 0, 1) := by decide +kernel
theorem d_M_fill_49 : decode b_M_fill 49 = .ok (.getfield 41, 3) := by decide +kernel
theorem d_M_fill_52 : decode b_M_fill 52 = .ok (.sipush 600, 3) := by decide +kernel
theorem d_M_fill_55 : decode b_M_fill 55 = .ok (.iload 6, 2) := by decide +kernel
theorem d_M_fill_57 : decode b_M_fill 57 = .ok (.imul, 1) := by decide +kernel
theorem d_M_fill_58 : decode b_M_fill 58 = .ok (.iload 5, 2) := by decide +kernel
theorem d_M_fill_60 : decode b_M_fill 60 = .ok (.iadd, 1) := by decide +kernel
theorem d_M_fill_61 : decode b_M_fill 61 = .ok (.iconst 0, 1) := by decide +kernel
theorem d_M_fill_62 : decode b_M_fill 62 = .ok (.iastore, 1) := by decide +kernel
theorem d_M_fill_63 : decode b_M_fill 63 = .ok (.iinc 6 1, 3) := by decide +kernel
theorem d_M_fill_66 : decode b_M_fill 66 = .ok (.goto (-49), 3) := by decide +kernel
theorem d_M_fill_69 : decode b_M_fill 69 = .ok (.iload 5, 2) := by decide +kernel
theorem d_M_fill_71 : decode b_M_fill 71 = .ok (.iconst 1, 1) := by decide +kernel
theorem d_M_fill_72 : decode b_M_fill 72 = .ok (.isub, 1) := by decide +kernel
theorem d_M_fill_73 : decode b_M_fill 73 = .ok (.istore 6, 2) := by decide +kernel
theorem d_M_fill_75 : decode b_M_fill 75 = .ok (.iload 6, 2) := by decide +kernel
theorem d_M_fill_77 : decode b_M_fill 77 = .ok (.iload_n 2, 1) := by decide +kernel
theorem d_M_fill_78 : decode b_M_fill 78 = .ok (.if_icmp .lt 265, 3) := by decide +kernel
theorem d_M_fill_81 : decode b_M_fill 81 = .ok (.iconst 0, 1) := by decide +kernel
theorem d_M_fill_82 : decode b_M_fill 82 = .ok (.istore 7, 2) := by decide +kernel
theorem d_M_fill_84 : decode b_M_fill 84 = .ok (.iload 7, 2) := by decide +kernel
theorem d_M_fill_86 : decode b_M_fill 86 = .ok (.iconst 4, 1) := by decide +kernel
theorem d_M_fill_87 : decode b_M_fill 87 = .ok (.if_icmp .ge 40, 3) := by decide +kernel
theorem d_M_fill_90 : decode b_M_fill 90 = .ok (.aload_n 0, 1) := by decide +kernel
theorem d_M_fill_91 : decode b_M_fill 91 = .ok (.getfield 38, 3) := by decide +kernel
theorem d_M_fill_94 : decode b_M_fill 94 = .ok (.sipush 600, 3) := by decide +kernel
theorem d_M_fill_97 : decode b_M_fill 97 = .ok (.iload 7, 2) := by decide +kernel
theorem d_M_fill_99 : decode b_M_fill 99 = .ok (.imul, 1) := by decide +kernel
theorem d_M_fill_100 : decode b_M_fill 100 = .ok (.iload 6, 2) := by decide +kernel
theorem d_M_fill_102 : decode b_M_fill 102 = .ok (.iadd, 1) := by decide +kernel
theorem d_M_fill_103 : decode b_M_fill 103 = .ok (.ldc 156, 2) := by decide +kernel
theorem d_M_fill_105 : decode b_M_fill 105 = .ok (.iastore, 1) := by decide +kernel
theorem d_M_fill_106 : decode b_M_fill 106 = .ok (.aload_n 0, 1) := by decide +kernel
theorem d_M_fill_107 : decode b_M_fill 107 = .ok (.getfield 41, 3) := by decide +kernel
theorem d_M_fill_110 : decode b_M_fill 110 = .ok (.sipush 600, 3) := by decide +kernel
theorem d_M_fill_113 : decode b_M_fill 113 = .ok (.iload 7, 2) := by decide +kernel
theorem d_M_fill_115 : decode b_M_fill 115 = .ok (.imul, 1) := by decide +kernel
theorem d_M_fill_116 : decode b_M_fill 116 = .ok (.iload 6, 2) := by decide +kernel
theorem d_M_fill_118 : decode b_M_fill 118 = .ok (.iadd, 1) := by decide +kernel
theorem d_M_fill_119 : decode b_M_fill 119 = .ok (.iconst 0, 1) := by decide +kernel
theorem d_M_fill_120 : decode b_M_fill 120 = .ok (.iastore, 1) := by decide +kernel
theorem d_M_fill_121 : decode b_M_fill 121 = .ok (.iinc 7 1, 3) := by decide +kernel
theorem d_M_fill_124 : decode b_M_fill 124 = .ok (.goto (-40), 3) := by decide +kernel
theorem d_M_fill_127 : decode b_M_fill 127 = .ok (.iconst 1, 1) := by decide +kernel
theorem d_M_fill_128 : decode b_M_fill 128 = .ok (.istore 7, 2) := by decide +kernel
theorem d_M_fill_130 : decode b_M_fill 130 = .ok (.iload 7, 2) := by decide +kernel
theorem d_M_fill_132 : decode b_M_fill 132 = .ok (.bipush 24, 2) := by decide +kernel
theorem d_M_fill_134 : decode b_M_fill 134 = .ok (.if_icmp .gt 203, 3) := by decide +kernel
theorem d_M_fill_137 : decode b_M_fill 137 = .ok (.iload 6, 2) := by decide +kernel
theorem d_M_fill_139 : decode b_M_fill 139 = .ok (.iload 4, 2) := by decide +kernel
theorem d_M_fill_141 : decode b_M_fill 141 = .ok (.if_icmp .ge 196, 3) := by decide +kernel
theorem d_M_fill_144 : decode b_M_fill 144 = .ok (.iload 6, 2) := by decide +kernel
theorem d_M_fill_146 : decode b_M_fill 146 = .ok (.iload 7, 2) := by decide +kernel
theorem d_M_fill_148 : decode b_M_fill 148 = .ok (.iadd, 1) := by decide +kernel
theorem d_M_fill_149 : decode b_M_fill 149 = .ok (.istore 8, 2) := by decide +kernel
theorem d_M_fill_151 : decode b_M_fill 151 = .ok (.iload 8, 2) := by decide +kernel
theorem d_M_fill_153 : decode b_M_fill 153 = .ok (.iload 4, 2) := by decide +kernel
theorem d_M_fill_155 : decode b_M_fill 155 = .ok (.if_icmp .lt 10, 3) := by decide +kernel
theorem d_M_fill_158 : decode b_M_fill 158 = .ok (.iload 8, 2) := by decide +kernel
theorem d_M_fill_160 : decode b_M_fill 160 = .ok (.iload 5, 2) := by decide +kernel
theorem d_M_fill_162 : decode b_M_fill 162 = .ok (.if_icmp .ne 7, 3) := by decide +kernel
theorem d_M_fill_165 : decode b_M_fill 165 = .ok (.iconst 1, 1) := by decide +kernel
theorem d_M_fill_166 : decode b_M_fill 166 = .ok (.goto 4, 3) := by decide +kernel
theorem d_M_fill_169 : decode b_M_fill 169 = .ok (.iconst 0, 1) := by decide +kernel
theorem d_M_fill_170 : decode b_M_fill 170 = .ok (.istore 9, 2) := by decide +kernel
theorem d_M_fill_172 : decode b_M_fill 172 = .ok (.iload 9, 2) := by decide +kernel
theorem d_M_fill_174 : decode b_M_fill 174 = .ok (.ifCond .eq 16, 3) := by decide +kernel
theorem d_M_fill_177 : decode b_M_fill 177 = .ok (.aload_n 0, 1) := by decide +kernel
theorem d_M_fill_178 : decode b_M_fill 178 = .ok (.iload_n 1, 1) := by decide +kernel
theorem d_M_fill_179 : decode b_M_fill 179 = .ok (.iload 6, 2) := by decide +kernel
theorem d_M_fill_181 : decode b_M_fill 181 = .ok (.iload 7, 2) := by decide +kernel
theorem d_M_fill_183 : decode b_M_fill 183 = .ok (.iload_n 3, 1) := by decide +kernel
theorem d_M_fill_184 : decode b_M_fill 184 = .ok (.invokevirtual 152, 3) := by decide +kernel
theorem d_M_fill_187 : decode b_M_fill 187 = .ok (.goto 4, 3) := by decide +kernel
theorem d_M_fill_190 : decode b_M_fill 190 = .ok (.iconst (-1), 1) := by decide +kernel
theorem d_M_fill_191 : decode b_M_fill 191 = .ok (.istore 10, 2) := by decide +kernel
theorem d_M_fill_193 : decode b_M_fill 193 = .ok (.iconst 0, 1) := by decide +kernel
theorem d_M_fill_194 : decode b_M_fill 194 = .ok (.istore 11, 2) := by decide +kernel
theorem d_M_fill_196 : decode b_M_fill 196 = .ok (.iload 11, 2) := by decide +kernel
theorem d_M_fill_198 : decode b_M_fill 198 = .ok (.iconst 4, 1) := by decide +kernel
theorem d_M_fill_199 : decode b_M_fill 199 = .ok (.if_icmp .ge 132, 3) := by decide +kernel
theorem d_M_fill_202 : decode b_M_fill 202 = .ok (.iload 10, 2) := by decide +kernel
theorem d_M_fill_204 : decode b_M_fill 204 = .ok (.iconst (-1), 1) := by decide +kernel
theorem d_M_fill_205 : decode b_M_fill 205 = .ok (.if_icmp .eq 126, 3) := by decide +kernel
theorem d_M_fill_208 : decode b_M_fill 208 = .ok (.sipush 600, 3) := by decide +kernel
theorem d_M_fill_211 : decode b_M_fill 211 = .ok (.iload 11, 2) := by decide +kernel
theorem d_M_fill_213 : decode b_M_fill 213 = .ok (.ifCond .ne 7, 3) := by decide +kernel
theorem d_M_fill_216 : decode b_M_fill 216 = .ok (.iconst 0, 1) := by decide +kernel
theorem d_M_fill_217 : decode b_M_fill 217 = .ok (.goto 7, 3) := by decide +kernel
theorem d_M_fill_220 : decode b_M_fill 220 = .ok (.iload 11, 2) := by decide +kernel
theorem d_M_fill_222 : decode b_M_fill 222 = .ok (.iconst 1, 1) := by decide +kernel
theorem d_M_fill_223 : decode b_M_fill 223 = .ok (.isub, 1) := by decide +kernel
theorem d_M_fill_224 : decode b_M_fill 224 = .ok (.imul, 1) := by decide +kernel
theorem d_M_fill_225 : decode b_M_fill 225 = .ok (.iload 8, 2) := by decide +kernel
theorem d_M_fill_227 : decode b_M_fill 227 = .ok (.iadd, 1) := by decide +kernel
theorem d_M_fill_228 : decode b_M_fill 228 = .ok (.istore 12, 2) := by decide +kernel
theorem d_M_fill_230 : decode b_M_fill 230 = .ok (.sipush 600, 3) := by decide +kernel
theorem d_M_fill_233 : decode b_M_fill 233 = .ok (.iload 11, 2) := by decide +kernel
theorem d_M_fill_235 : decode b_M_fill 235 = .ok (.imul, 1) := by decide +kernel
theorem d_M_fill_236 : decode b_M_fill 236 = .ok (.iload 6, 2) := by decide +kernel
theorem d_M_fill_238 : decode b_M_fill 238 = .ok (.iadd, 1) := by decide +kernel
theorem d_M_fill_239 : decode b_M_fill 239 = .ok (.istore 13, 2) := by decide +kernel
theorem d_M_fill_241 : decode b_M_fill 241 = .ok (.aload_n 0, 1) := by decide +kernel
theorem d_M_fill_242 : decode b_M_fill 242 = .ok (.getfield 38, 3) := by decide +kernel
theorem d_M_fill_245 : decode b_M_fill 245 = .ok (.iload 12, 2) := by decide +kernel
theorem d_M_fill_247 : decode b_M_fill 247 = .ok (.iaload, 1) := by decide +kernel
theorem d_M_fill_248 : decode b_M_fill 248 = .ok (.ldc 156, 2) := by decide +kernel
theorem d_M_fill_250 : decode b_M_fill 250 = .ok (.if_icmp .ge 75, 3) := by decide +kernel
theorem d_M_fill_253 : decode b_M_fill 253 = .ok (.aload_n 0, 1) := by decide +kernel
theorem d_M_fill_254 : decode b_M_fill 254 = .ok (.getfield 38, 3) := by decide +kernel
theorem d_M_fill_257 : decode b_M_fill 257 = .ok (.iload 12, 2) := by decide +kernel
theorem d_M_fill_259 : decode b_M_fill 259 = .ok (.iaload, 1) := by decide +kernel
theorem d_M_fill_260 : decode b_M_fill 260 = .ok (.iconst 1, 1) := by decide +kernel
theorem d_M_fill_261 : decode b_M_fill 261 = .ok (.iadd, 1) := by decide +kernel
theorem d_M_fill_262 : decode b_M_fill 262 = .ok (.aload_n 0, 1) := by decide +kernel
theorem d_M_fill_263 : decode b_M_fill 263 = .ok (.getfield 41, 3) := by decide +kernel
theorem d_M_fill_266 : decode b_M_fill 266 = .ok (.iload 12, 2) := by decide +kernel
theorem d_M_fill_268 : decode b_M_fill 268 = .ok (.iaload, 1) := by decide +kernel
theorem d_M_fill_269 : decode b_M_fill 269 = .ok (.iload 10, 2) := by decide +kernel
theorem d_M_fill_271 : decode b_M_fill 271 = .ok (.iadd, 1) := by decide +kernel
theorem d_M_fill_272 : decode b_M_fill 272 = .ok (.aload_n 0, 1) := by decide +kernel
theorem d_M_fill_273 : decode b_M_fill 273 = .ok (.getfield 38, 3) := by decide +kernel
theorem d_M_fill_276 : decode b_M_fill 276 = .ok (.iload 13, 2) := by decide +kernel
theorem d_M_fill_278 : decode b_M_fill 278 = .ok (.iaload, 1) := by decide +kernel
theorem d_M_fill_279 : decode b_M_fill 279 = .ok (.aload_n 0, 1) := by decide +kernel
theorem d_M_fill_280 : decode b_M_fill 280 = .ok (.getfield 41, 3) := by decide +kernel
theorem d_M_fill_283 : decode b_M_fill 283 = .ok (.iload 13, 2) := by decide +kernel
theorem d_M_fill_285 : decode b_M_fill 285 = .ok (.iaload, 1) := by decide +kernel
theorem d_M_fill_286 : decode b_M_fill 286 = .ok (.invokestatic 157, 3) := by decide +kernel
theorem d_M_fill_289 : decode b_M_fill 289 = .ok (.ifCond .eq 36, 3) := by decide +kernel
theorem d_M_fill_292 : decode b_M_fill 292 = .ok (.aload_n 0, 1) := by decide +kernel
theorem d_M_fill_293 : decode b_M_fill 293 = .ok (.getfield 38, 3) := by decide +kernel
theorem d_M_fill_296 : decode b_M_fill 296 = .ok (.iload 13, 2) := by decide +kernel
theorem d_M_fill_298 : decode b_M_fill 298 = .ok (.aload_n 0, 1) := by decide +kernel
theorem d_M_fill_299 : decode b_M_fill 299 = .ok (.getfield 38, 3) := by decide +kernel
theorem d_M_fill_302 : decode b_M_fill 302 = .ok (.iload 12, 2) := by decide +kernel
theorem d_M_fill_304 : decode b_M_fill 304 = .ok (.iaload, 1) := by decide +kernel
theorem d_M_fill_305 : decode b_M_fill 305 = .ok (.iconst 1, 1) := by decide +kernel
theorem d_M_fill_306 : decode b_M_fill 306 = .ok (.iadd, 1) := by decide +kernel
theorem d_M_fill_307 : decode b_M_fill 307 = .ok (.iastore, 1) := by decide +kernel
theorem d_M_fill_308 : decode b_M_fill 308 = .ok (.aload_n 0, 1) := by decide +kernel
theorem d_M_fill_309 : decode b_M_fill 309 = .ok (.getfield 41, 3) := by decide +kernel
theorem d_M_fill_312 : decode b_M_fill 312 = .ok (.iload 13, 2) := by decide +kernel
theorem d_M_fill_314 : decode b_M_fill 314 = .ok (.aload_n 0, 1) := by decide +kernel
theorem d_M_fill_315 : decode b_M_fill 315 = .ok (.getfield 41, 3) := by decide +kernel
theorem d_M_fill_318 : decode b_M_fill 318 = .ok (.iload 12, 2) := by decide +kernel
theorem d_M_fill_320 : decode b_M_fill 320 = .ok (.iaload, 1) := by decide +kernel
theorem d_M_fill_321 : decode b_M_fill 321 = .ok (.iload 10, 2) := by decide +kernel
theorem d_M_fill_323 : decode b_M_fill 323 = .ok (.iadd, 1) := by decide +kernel
theorem d_M_fill_324 : decode b_M_fill 324 = .ok (.iastore, 1) := by decide +kernel
theorem d_M_fill_325 : decode b_M_fill 325 = .ok (.iinc 11 1, 3) := by decide +kernel
theorem d_M_fill_328 : decode b_M_fill 328 = .ok (.goto (-132), 3) := by decide +kernel
theorem d_M_fill_331 : decode b_M_fill 331 = .ok (.iinc 7 1, 3) := by decide +kernel
theorem d_M_fill_334 : decode b_M_fill 334 = .ok (.goto (-204), 3) := by decide +kernel
theorem d_M_fill_337 : decode b_M_fill 337 = .ok (.iinc 6 (-1), 3) := by decide +kernel
theorem d_M_fill_340 : decode b_M_fill 340 = .ok (.goto (-265), 3) := by decide +kernel
theorem d_M_fill_343 : decode b_M_fill 343 = .ok (.return_, 1) := by decide +kernel
theorem d_M_follows_0 : decode b_M_follows 0 = .ok (.iload_n 2, 1) := by decide +kernel
theorem d_M_follows_1 : decode b_M_follows 1 = .ok (.iload_n 3, 1) := by decide +kernel
theorem d_M_follows_2 : decode b_M_follows 2 = .ok (.iadd, 1) := by decide +kernel
theorem d_M_follows_3 : decode b_M_follows 3 = .ok (.istore 8, 2) := by decide +kernel
theorem d_M_follows_5 : decode b_M_follows 5 = .ok (.iload 8, 2) := by decide +kernel
theorem d_M_follows_7 : decode b_M_follows 7 = .ok (.aload_n 0, 1) := by decide +kernel
theorem d_M_follows_8 : decode b_M_follows 8 = .ok (.getfield 16, 3) := by decide +kernel
theorem d_M_follows_11 : decode b_M_follows 11 = .ok (.iload_n 1, 1) := by decide +kernel
theorem d_M_follows_12 : decode b_M_follows 12 = .ok (.iaload, 1) := by decide +kernel
theorem d_M_follows_13 : decode b_M_follows 13 = .ok (.if_icmp .lt 12, 3) := by decide +kernel
theorem d_M_follows_16 : decode b_M_follows 16 = .ok (.iload 8, 2) := by decide +kernel
theorem d_M_follows_18 : decode b_M_follows 18 = .ok (.iload 7, 2) := by decide +kernel
theorem d_M_follows_20 : decode b_M_follows 20 = .ok (.if_icmp .eq 5, 3) := by decide +kernel
theorem d_M_follows_23 : decode b_M_follows 23 = .ok (.iconst 0, 1) := by decide +kernel
theorem d_M_follows_24 : decode b_M_follows 24 = .ok (.ireturn, 1) := by decide +kernel
theorem d_M_follows_25 : decode b_M_follows 25 = .ok (.aload_n 0, 1) := by decide +kernel
theorem d_M_follows_26 : decode b_M_follows 26 = .ok (.iload_n 1, 1) := by decide +kernel
theorem d_M_follows_27 : decode b_M_follows 27 = .ok (.iload_n 2, 1) := by decide +kernel
theorem d_M_follows_28 : decode b_M_follows 28 = .ok (.iload_n 3, 1) := by decide +kernel
theorem d_M_follows_29 : decode b_M_follows 29 = .ok (.iload 6, 2) := by decide +kernel
theorem d_M_follows_31 : decode b_M_follows 31 = .ok (.invokevirtual 152, 3) := by decide +kernel
theorem d_M_follows_34 : decode b_M_follows 34 = .ok (.istore 9, 2) := by decide +kernel
theorem d_M_follows_36 : decode b_M_follows 36 = .ok (.sipush 600, 3) := by decide +kernel
theorem d_M_follows_39 : decode b_M_follows 39 = .ok (.iload 5, 2) := by decide +kernel
theorem d_M_follows_41 : decode b_M_follows 41 = .ok (.imul, 1) := by decide +kernel
theorem d_M_follows_42 : decode b_M_follows 42 = .ok (.iload 8, 2) := by decide +kernel
theorem d_M_follows_44 : decode b_M_follows 44 = .ok (.iadd, 1) := by decide +kernel
theorem d_M_follows_45 : decode b_M_follows 45 = .ok (.istore 10, 2) := by decide +kernel
theorem d_M_follows_47 : decode b_M_follows 47 = .ok (.sipush 600, 3) := by decide +kernel
theorem d_M_follows_50 : decode b_M_follows 50 = .ok (.iload 4, 2) := by decide +kernel
theorem d_M_follows_52 : decode b_M_follows 52 = .ok (.imul, 1) := by decide +kernel
theorem d_M_follows_53 : decode b_M_follows 53 = .ok (.iload_n 2, 1) := by decide +kernel
theorem d_M_follows_54 : decode b_M_follows 54 = .ok (.iadd, 1) := by decide +kernel
theorem d_M_follows_55 : decode b_M_follows 55 = .ok (.istore 11, 2) := by decide +kernel
theorem d_M_follows_57 : decode b_M_follows 57 = .ok (.iload 9, 2) := by decide +kernel
theorem d_M_follows_59 : decode b_M_follows 59 = .ok (.iconst (-1), 1) := by decide +kernel
theorem d_M_follows_60 : decode b_M_follows 60 = .ok (.if_icmp .eq 46, 3) := by decide +kernel
theorem d_M_follows_63 : decode b_M_follows 63 = .ok (.aload_n 0, 1) := by decide +kernel
theorem d_M_follows_64 : decode b_M_follows 64 = .ok (.getfield 38, 3) := by decide +kernel
theorem d_M_follows_67 : decode b_M_follows 67 = .ok (.iload 10, 2) := by decide +kernel
theorem d_M_follows_69 : decode b_M_follows 69 = .ok (.iaload, 1) := by decide +kernel
theorem d_M_follows_70 : decode b_M_follows 70 = .ok (.iconst 1, 1) := by decide +kernel
theorem d_M_follows_71 : decode b_M_follows 71 = .ok (.iadd, 1) := by decide +kernel
theorem d_M_follows_72 : decode b_M_follows 72 = .ok (.aload_n 0, 1) := by decide +kernel
theorem d_M_follows_73 : decode b_M_follows 73 = .ok (.getfield 38, 3) := by decide +kernel
theorem d_M_follows_76 : decode b_M_follows 76 = .ok (.iload 11, 2) := by decide +kernel
theorem d_M_follows_78 : decode b_M_follows 78 = .ok (.iaload, 1) := by decide +kernel
theorem d_M_follows_79 : decode b_M_follows 79 = .ok (.if_icmp .ne 27, 3) := by decide +kernel
theorem d_M_follows_82 : decode b_M_follows 82 = .ok (.aload_n 0, 1) := by decide +kernel
theorem d_M_follows_83 : decode b_M_follows 83 = .ok (.getfield 41, 3) := by decide +kernel
theorem d_M_follows_86 : decode b_M_follows 86 = .ok (.iload 10, 2) := by decide +kernel
theorem d_M_follows_88 : decode b_M_follows 88 = .ok (.iaload, 1) := by decide +kernel
theorem d_M_follows_89 : decode b_M_follows 89 = .ok (.iload 9, 2) := by decide +kernel
theorem d_M_follows_91 : decode b_M_follows 91 = .ok (.iadd, 1) := by decide +kernel
theorem d_M_follows_92 : decode b_M_follows 92 = .ok (.aload_n 0, 1) := by decide +kernel
theorem d_M_follows_93 : decode b_M_follows 93 = .ok (.getfield 41, 3) := by decide +kernel
theorem d_M_follows_96 : decode b_M_follows 96 = .ok (.iload 11, 2) := by decide +kernel
theorem d_M_follows_98 : decode b_M_follows 98 = .ok (.iaload, 1) := by decide +kernel
theorem d_M_follows_99 : decode b_M_follows 99 = .ok (.if_icmp .ne 7, 3) := by decide +kernel
theorem d_M_follows_102 : decode b_M_follows 102 = .ok (.iconst 1, 1) := by decide +kernel
theorem d_M_follows_103 : decode b_M_follows 103 = .ok (.goto 4, 3) := by decide +kernel
theorem d_M_follows_106 : decode b_M_follows 106 = .ok (.iconst 0, 1) := by decide +kernel
theorem d_M_follows_107 : decode b_M_follows 107 = .ok (.ireturn, 1) := by decide +kernel
theorem d_M_polygon_0 : decode b_M_polygon 0 = .ok (.aload_n 0, 1) := by decide +kernel
theorem d_M_polygon_1 : decode b_M_polygon 1 = .ok (.aload_n 0, 1) := by decide +kernel
theorem d_M_polygon_2 : decode b_M_polygon 2 = .ok (.getfield 79, 3) := by decide +kernel
theorem d_M_polygon_5 : decode b_M_polygon 5 = .ok (.ifCond .ne 7, 3) := by decide +kernel
theorem d_M_polygon_8 : decode b_M_polygon 8 = .ok (.iconst 1, 1) := by decide +kernel
theorem d_M_polygon_9 : decode b_M_polygon 9 = .ok (.goto 36, 3) := by decide +kernel
theorem d_M_polygon_12 : decode b_M_polygon 12 = .ok (.iload_n 1, 1) := by decide +kernel
theorem d_M_polygon_13 : decode b_M_polygon 13 = .ok (.iconst 0, 1) := by decide +kernel
theorem d_M_polygon_14 : decode b_M_polygon 14 = .ok (.aload_n 0, 1) := by decide +kernel
theorem d_M_polygon_15 : decode b_M_polygon 15 = .ok (.getfield 83, 3) := by decide +kernel
theorem d_M_polygon_18 : decode b_M_polygon 18 = .ok (.iconst 1, 1) := by decide +kernel
theorem d_M_polygon_19 : decode b_M_polygon 19 = .ok (.isub, 1) := by decide +kernel
theorem d_M_polygon_20 : decode b_M_polygon 20 = .ok (.invokestatic 75, 3) := by decide +kernel
theorem d_M_polygon_23 : decode b_M_polygon 23 = .ok (.ifCond .ne 7, 3) := by decide +kernel
theorem d_M_polygon_26 : decode b_M_polygon 26 = .ok (.iconst 2, 1) := by decide +kernel
theorem d_M_polygon_27 : decode b_M_polygon 27 = .ok (.goto 18, 3) := by decide +kernel
theorem d_M_polygon_30 : decode b_M_polygon 30 = .ok (.iload_n 2, 1) := by decide +kernel
theorem d_M_polygon_31 : decode b_M_polygon 31 = .ok (.iconst 1, 1) := by decide +kernel
theorem d_M_polygon_32 : decode b_M_polygon 32 = .ok (.bipush 8, 2) := by decide +kernel
theorem d_M_polygon_34 : decode b_M_polygon 34 = .ok (.invokestatic 75, 3) := by decide +kernel
theorem d_M_polygon_37 : decode b_M_polygon 37 = .ok (.ifCond .ne 7, 3) := by decide +kernel
theorem d_M_polygon_40 : decode b_M_polygon 40 = .ok (.iconst 3, 1) := by decide +kernel
theorem d_M_polygon_41 : decode b_M_polygon 41 = .ok (.goto 4, 3) := by decide +kernel
theorem d_M_polygon_44 : decode b_M_polygon 44 = .ok (.iconst 0, 1) := by decide +kernel
theorem d_M_polygon_45 : decode b_M_polygon 45 = .ok (.invokevirtual 96, 3) := by decide +kernel
theorem d_M_polygon_48 : decode b_M_polygon 48 = .ok (.ifCond .eq 5, 3) := by decide +kernel
theorem d_M_polygon_51 : decode b_M_polygon 51 = .ok (.iconst 0, 1) := by decide +kernel
theorem d_M_polygon_52 : decode b_M_polygon 52 = .ok (.ireturn, 1) := by decide +kernel
theorem d_M_polygon_53 : decode b_M_polygon 53 = .ok (.iconst (-1), 1) := by decide +kernel
theorem d_M_polygon_54 : decode b_M_polygon 54 = .ok (.istore_n 3, 1) := by decide +kernel
theorem d_M_polygon_55 : decode b_M_polygon 55 = .ok (.ldc 156, 2) := by decide +kernel
theorem d_M_polygon_57 : decode b_M_polygon 57 = .ok (.istore 4, 2) := by decide +kernel
theorem d_M_polygon_59 : decode b_M_polygon 59 = .ok (.iconst 0, 1) := by decide +kernel
theorem d_M_polygon_60 : decode b_M_polygon 60 = .ok (.istore 5, 2) := by decide +kernel
theorem d_M_polygon_62 : decode b_M_polygon 62 = .ok (.iconst 0, 1) := by decide +kernel
theorem d_M_polygon_63 : decode b_M_polygon 63 = .ok (.istore 6, 2) := by decide +kernel
theorem d_M_polygon_65 : decode b_M_polygon 65 = .ok (.iload 6, 2) := by decide +kernel
theorem d_M_polygon_67 : decode b_M_polygon 67 = .ok (.bipush 24, 2) := by decide +kernel
theorem d_M_polygon_69 : decode b_M_polygon 69 = .ok (.if_icmp .ge 89, 3) := by decide +kernel
theorem d_M_polygon_72 : decode b_M_polygon 72 = .ok (.iload 6, 2) := by decide +kernel
theorem d_M_polygon_74 : decode b_M_polygon 74 = .ok (.aload_n 0, 1) := by decide +kernel
theorem d_M_polygon_75 : decode b_M_polygon 75 = .ok (.getfield 16, 3) := by decide +kernel
theorem d_M_polygon_78 : decode b_M_polygon 78 = .ok (.iload_n 1, 1) := by decide +kernel
theorem d_M_polygon_79 : decode b_M_polygon 79 = .ok (.iaload, 1) := by decide +kernel
theorem d_M_polygon_80 : decode b_M_polygon 80 = .ok (.if_icmp .ge 78, 3) := by decide +kernel
theorem d_M_polygon_83 : decode b_M_polygon 83 = .ok (.aload_n 0, 1) := by decide +kernel
theorem d_M_polygon_84 : decode b_M_polygon 84 = .ok (.iload_n 1, 1) := by decide +kernel
theorem d_M_polygon_85 : decode b_M_polygon 85 = .ok (.iload 6, 2) := by decide +kernel
theorem d_M_polygon_87 : decode b_M_polygon 87 = .ok (.iload_n 2, 1) := by decide +kernel
theorem d_M_polygon_88 : decode b_M_polygon 88 = .ok (.invokevirtual 160, 3) := by decide +kernel
theorem d_M_polygon_91 : decode b_M_polygon 91 = .ok (.aload_n 0, 1) := by decide +kernel
theorem d_M_polygon_92 : decode b_M_polygon 92 = .ok (.getfield 38, 3) := by decide +kernel
theorem d_M_polygon_95 : decode b_M_polygon 95 = .ok (.sipush 1800, 3) := by decide +kernel
theorem d_M_polygon_98 : decode b_M_polygon 98 = .ok (.iload 6, 2) := by decide +kernel
theorem d_M_polygon_100 : decode b_M_polygon 100 = .ok (.iadd, 1) := by decide +kernel
theorem d_M_polygon_101 : decode b_M_polygon 101 = .ok (.iaload, 1) := by decide +kernel
theorem d_M_polygon_102 : decode b_M_polygon 102 = .ok (.aload_n 0, 1) := by decide +kernel
theorem d_M_polygon_103 : decode b_M_polygon 103 = .ok (.getfield 41, 3) := by decide +kernel
theorem d_M_polygon_106 : decode b_M_polygon 106 = .ok (.sipush 1800, 3) := by decide +kernel
theorem d_M_polygon_109 : decode b_M_polygon 109 = .ok (.iload 6, 2) := by decide +kernel
theorem d_M_polygon_111 : decode b_M_polygon 111 = .ok (.iadd, 1) := by decide +kernel
theorem d_M_polygon_112 : decode b_M_polygon 112 = .ok (.iaload, 1) := by decide +kernel
theorem d_M_polygon_113 : decode b_M_polygon 113 = .ok (.iload 4, 2) := by decide +kernel
theorem d_M_polygon_115 : decode b_M_polygon 115 = .ok (.iload 5, 2) := by decide +kernel
theorem d_M_polygon_117 : decode b_M_polygon 117 = .ok (.invokestatic 157, 3) := by decide +kernel
theorem d_M_polygon_120 : decode b_M_polygon 120 = .ok (.ifCond .eq 32, 3) := by decide +kernel
theorem d_M_polygon_123 : decode b_M_polygon 123 = .ok (.iload 6, 2) := by decide +kernel
theorem d_M_polygon_125 : decode b_M_polygon 125 = .ok (.istore_n 3, 1) := by decide +kernel
theorem d_M_polygon_126 : decode b_M_polygon 126 = .ok (.aload_n 0, 1) := by decide +kernel
theorem d_M_polygon_127 : decode b_M_polygon 127 = .ok (.getfield 38, 3) := by decide +kernel
theorem d_M_polygon_130 : decode b_M_polygon 130 = .ok (.sipush 1800, 3) := by decide +kernel
theorem d_M_polygon_133 : decode b_M_polygon 133 = .ok (.iload 6, 2) := by decide +kernel
theorem d_M_polygon_135 : decode b_M_polygon 135 = .ok (.iadd, 1) := by decide +kernel
theorem d_M_polygon_136 : decode b_M_polygon 136 = .ok (.iaload, 1) := by decide +kernel
theorem d_M_polygon_137 : decode b_M_polygon 137 = .ok (.istore 4, 2) := by decide +kernel
theorem d_M_polygon_139 : decode b_M_polygon 139 = .ok (.aload_n 0, 1) := by decide +kernel
theorem d_M_polygon_140 : decode b_M_polygon 140 = .ok (.getfield 41, 3) := by decide +kernel
theorem d_M_polygon_143 : decode b_M_polygon 143 = .ok (.sipush 1800, 3) := by decide +kernel
theorem d_M_polygon_146 : decode b_M_polygon 146 = .ok (.iload 6, 2) := by decide +kernel
theorem d_M_polygon_148 : decode b_M_polygon 148 = .ok (.iadd, 1) := by decide +kernel
theorem d_M_polygon_149 : decode b_M_polygon 149 = .ok (.iaload, 1) := by decide +kernel
theorem d_M_polygon_150 : decode b_M_polygon 150 = .ok (.istore 5, 2) := by decide +kernel
theorem d_M_polygon_152 : decode b_M_polygon 152 = .ok (.iinc 6 1, 3) := by decide +kernel
theorem d_M_polygon_155 : decode b_M_polygon 155 = .ok (.goto (-90), 3) := by decide +kernel
theorem d_M_polygon_158 : decode b_M_polygon 158 = .ok (.aload_n 0, 1) := by decide +kernel
theorem d_M_polygon_159 : decode b_M_polygon 159 = .ok (.iload_n 1, 1) := by decide +kernel
theorem d_M_polygon_160 : decode b_M_polygon 160 = .ok (.iload_n 3, 1) := by decide +kernel
theorem d_M_polygon_161 : decode b_M_polygon 161 = .ok (.iload_n 2, 1) := by decide +kernel
theorem d_M_polygon_162 : decode b_M_polygon 162 = .ok (.invokevirtual 160, 3) := by decide +kernel
theorem d_M_polygon_165 : decode b_M_polygon 165 = .ok (.aload_n 0, 1) := by decide +kernel
theorem d_M_polygon_166 : decode b_M_polygon 166 = .ok (.iconst 0, 1) := by decide +kernel
theorem d_M_polygon_167 : decode b_M_polygon 167 = .ok (.putfield 164, 3) := by decide +kernel
theorem d_M_polygon_170 : decode b_M_polygon 170 = .ok (.iload_n 3, 1) := by decide +kernel
theorem d_M_polygon_171 : decode b_M_polygon 171 = .ok (.aload_n 0, 1) := by decide +kernel
theorem d_M_polygon_172 : decode b_M_polygon 172 = .ok (.getfield 16, 3) := by decide +kernel
theorem d_M_polygon_175 : decode b_M_polygon 175 = .ok (.iload_n 1, 1) := by decide +kernel
theorem d_M_polygon_176 : decode b_M_polygon 176 = .ok (.iaload, 1) := by decide +kernel
theorem d_M_polygon_177 : decode b_M_polygon 177 = .ok (.iadd, 1) := by decide +kernel
theorem d_M_polygon_178 : decode b_M_polygon 178 = .ok (.istore 6, 2) := by decide +kernel
theorem d_M_polygon_180 : decode b_M_polygon 180 = .ok (.iload_n 3, 1) := by decide +kernel
theorem d_M_polygon_181 : decode b_M_polygon 181 = .ok (.istore 7, 2) := by decide +kernel
theorem d_M_polygon_183 : decode b_M_polygon 183 = .ok (.iconst 3, 1) := by decide +kernel
theorem d_M_polygon_184 : decode b_M_polygon 184 = .ok (.istore 8, 2) := by decide +kernel
theorem d_M_polygon_186 : decode b_M_polygon 186 = .ok (.iload 7, 2) := by decide +kernel
theorem d_M_polygon_188 : decode b_M_polygon 188 = .ok (.iload 6, 2) := by decide +kernel
theorem d_M_polygon_190 : decode b_M_polygon 190 = .ok (.if_icmp .eq 81, 3) := by decide +kernel
theorem d_M_polygon_193 : decode b_M_polygon 193 = .ok (.aload_n 0, 1) := by decide +kernel
theorem d_M_polygon_194 : decode b_M_polygon 194 = .ok (.getfield 35, 3) := by decide +kernel
theorem d_M_polygon_197 : decode b_M_polygon 197 = .ok (.aload_n 0, 1) := by decide +kernel
theorem d_M_polygon_198 : decode b_M_polygon 198 = .ok (.getfield 164, 3) := by decide +kernel
theorem d_M_polygon_201 : decode b_M_polygon 201 = .ok (.iload 7, 2) := by decide +kernel
theorem d_M_polygon_203 : decode b_M_polygon 203 = .ok (.iastore, 1) := by decide +kernel
theorem d_M_polygon_204 : decode b_M_polygon 204 = .ok (.aload_n 0, 1) := by decide +kernel
theorem d_M_polygon_205 : decode b_M_polygon 205 = .ok (.dup, 1) := by decide +kernel
theorem d_M_polygon_206 : decode b_M_polygon 206 = .ok (.getfield 164, 3) := by decide +kernel
theorem d_M_polygon_209 : decode b_M_polygon 209 = .ok (.iconst 1, 1) := by decide +kernel
theorem d_M_polygon_210 : decode b_M_polygon 210 = .ok (.iadd, 1) := by decide +kernel
theorem d_M_polygon_211 : decode b_M_polygon 211 = .ok (.putfield 164, 3) := by decide +kernel
theorem d_M_polygon_214 : decode b_M_polygon 214 = .ok (.iconst 1, 1) := by decide +kernel
theorem d_M_polygon_215 : decode b_M_polygon 215 = .ok (.istore 9, 2) := by decide +kernel
theorem d_M_polygon_217 : decode b_M_polygon 217 = .ok (.iload 8, 2) := by decide +kernel
theorem d_M_polygon_219 : decode b_M_polygon 219 = .ok (.ifCond .ne 7, 3) := by decide +kernel
theorem d_M_polygon_222 : decode b_M_polygon 222 = .ok (.iconst 0, 1) := by decide +kernel
theorem d_M_polygon_223 : decode b_M_polygon 223 = .ok (.goto 7, 3) := by decide +kernel
theorem d_M_polygon_226 : decode b_M_polygon 226 = .ok (.iload 8, 2) := by decide +kernel
theorem d_M_polygon_228 : decode b_M_polygon 228 = .ok (.iconst 1, 1) := by decide +kernel
theorem d_M_polygon_229 : decode b_M_polygon 229 = .ok (.isub, 1) := by decide +kernel
theorem d_M_polygon_230 : decode b_M_polygon 230 = .ok (.istore 10, 2) := by decide +kernel
theorem d_M_polygon_232 : decode b_M_polygon 232 = .ok (.aload_n 0, 1) := by decide +kernel
theorem d_M_polygon_233 : decode b_M_polygon 233 = .ok (.iload_n 1, 1) := by decide +kernel
theorem d_M_polygon_234 : decode b_M_polygon 234 = .ok (.iload 7, 2) := by decide +kernel
theorem d_M_polygon_236 : decode b_M_polygon 236 = .ok (.iload 9, 2) := by decide +kernel
theorem d_M_polygon_238 : decode b_M_polygon 238 = .ok (.iload 8, 2) := by decide +kernel
theorem d_M_polygon_240 : decode b_M_polygon 240 = .ok (.iload 10, 2) := by decide +kernel
theorem d_M_polygon_242 : decode b_M_polygon 242 = .ok (.iload_n 2, 1) := by decide +kernel
theorem d_M_polygon_243 : decode b_M_polygon 243 = .ok (.iload 6, 2) := by decide +kernel
theorem d_M_polygon_245 : decode b_M_polygon 245 = .ok (.invokevirtual 167, 3) := by decide +kernel
theorem d_M_polygon_248 : decode b_M_polygon 248 = .ok (.ifCond .ne 9, 3) := by decide +kernel
theorem d_M_polygon_251 : decode b_M_polygon 251 = .ok (.iinc 9 1, 3) := by decide +kernel
theorem d_M_polygon_254 : decode b_M_polygon 254 = .ok (.goto (-22), 3) := by decide +kernel
theorem d_M_polygon_257 : decode b_M_polygon 257 = .ok (.iload 7, 2) := by decide +kernel
theorem d_M_polygon_259 : decode b_M_polygon 259 = .ok (.iload 9, 2) := by decide +kernel
theorem d_M_polygon_261 : decode b_M_polygon 261 = .ok (.iadd, 1) := by decide +kernel
theorem d_M_polygon_262 : decode b_M_polygon 262 = .ok (.istore 7, 2) := by decide +kernel
theorem d_M_polygon_264 : decode b_M_polygon 264 = .ok (.iload 10, 2) := by decide +kernel
theorem d_M_polygon_266 : decode b_M_polygon 266 = .ok (.istore 8, 2) := by decide +kernel
theorem d_M_polygon_268 : decode b_M_polygon 268 = .ok (.goto (-82), 3) := by decide +kernel
theorem d_M_polygon_271 : decode b_M_polygon 271 = .ok (.aload_n 0, 1) := by decide +kernel
theorem d_M_polygon_272 : decode b_M_polygon 272 = .ok (.iload_n 1, 1) := by decide +kernel
theorem d_M_polygon_273 : decode b_M_polygon 273 = .ok (.putfield 171, 3) := by decide +kernel
theorem d_M_polygon_276 : decode b_M_polygon 276 = .ok (.aload_n 0, 1) := by decide +kernel
theorem d_M_polygon_277 : decode b_M_polygon 277 = .ok (.iload 5, 2) := by decide +kernel
theorem d_M_polygon_279 : decode b_M_polygon 279 = .ok (.putfield 174, 3) := by decide +kernel
theorem d_M_polygon_282 : decode b_M_polygon 282 = .ok (.aload_n 0, 1) := by decide +kernel
theorem d_M_polygon_283 : decode b_M_polygon 283 = .ok (.iconst 1, 1) := by decide +kernel
theorem d_M_polygon_284 : decode b_M_polygon 284 = .ok (.putfield 86, 3) := by decide +kernel
theorem d_M_polygon_287 : decode b_M_polygon 287 = .ok (.aload_n 0, 1) := by decide +kernel
theorem d_M_polygon_288 : decode b_M_polygon 288 = .ok (.iconst 0, 1) := by decide +kernel
theorem d_M_polygon_289 : decode b_M_polygon 289 = .ok (.putfield 89, 3) := by decide +kernel
theorem d_M_polygon_292 : decode b_M_polygon 292 = .ok (.aload_n 0, 1) := by decide +kernel
theorem d_M_polygon_293 : decode b_M_polygon 293 = .ok (.getfield 164, 3) := by decide +kernel
theorem d_M_polygon_296 : decode b_M_polygon 296 = .ok (.ireturn, 1) := by decide +kernel
theorem d_M_cornerX_0 : decode b_M_cornerX 0 = .ok (.aload_n 0, 1) := by decide +kernel
theorem d_M_cornerX_1 : decode b_M_cornerX 1 = .ok (.aload_n 0, 1) := by decide +kernel
theorem d_M_cornerX_2 : decode b_M_cornerX 2 = .ok (.getfield 171, 3) := by decide +kernel
theorem d_M_cornerX_5 : decode b_M_cornerX 5 = .ok (.aload_n 0, 1) := by decide +kernel
theorem d_M_cornerX_6 : decode b_M_cornerX 6 = .ok (.getfield 35, 3) := by decide +kernel
theorem d_M_cornerX_9 : decode b_M_cornerX 9 = .ok (.iload_n 1, 1) := by decide +kernel
theorem d_M_cornerX_10 : decode b_M_cornerX 10 = .ok (.aload_n 0, 1) := by decide +kernel
theorem d_M_cornerX_11 : decode b_M_cornerX 11 = .ok (.getfield 164, 3) := by decide +kernel
theorem d_M_cornerX_14 : decode b_M_cornerX 14 = .ok (.irem, 1) := by decide +kernel
theorem d_M_cornerX_15 : decode b_M_cornerX 15 = .ok (.iaload, 1) := by decide +kernel
theorem d_M_cornerX_16 : decode b_M_cornerX 16 = .ok (.invokevirtual 136, 3) := by decide +kernel
theorem d_M_cornerX_19 : decode b_M_cornerX 19 = .ok (.ireturn, 1) := by decide +kernel
theorem d_M_cornerY_0 : decode b_M_cornerY 0 = .ok (.aload_n 0, 1) := by decide +kernel
theorem d_M_cornerY_1 : decode b_M_cornerY 1 = .ok (.aload_n 0, 1) := by decide +kernel
theorem d_M_cornerY_2 : decode b_M_cornerY 2 = .ok (.getfield 171, 3) := by decide +kernel
theorem d_M_cornerY_5 : decode b_M_cornerY 5 = .ok (.aload_n 0, 1) := by decide +kernel
theorem d_M_cornerY_6 : decode b_M_cornerY 6 = .ok (.getfield 35, 3) := by decide +kernel
theorem d_M_cornerY_9 : decode b_M_cornerY 9 = .ok (.iload_n 1, 1) := by decide +kernel
theorem d_M_cornerY_10 : decode b_M_cornerY 10 = .ok (.aload_n 0, 1) := by decide +kernel
theorem d_M_cornerY_11 : decode b_M_cornerY 11 = .ok (.getfield 164, 3) := by decide +kernel
theorem d_M_cornerY_14 : decode b_M_cornerY 14 = .ok (.irem, 1) := by decide +kernel
theorem d_M_cornerY_15 : decode b_M_cornerY 15 = .ok (.iaload, 1) := by decide +kernel
theorem d_M_cornerY_16 : decode b_M_cornerY 16 = .ok (.invokevirtual 132, 3) := by decide +kernel
theorem d_M_cornerY_19 : decode b_M_cornerY 19 = .ok (.ireturn, 1) := by decide +kernel
theorem d_M_crossAt_0 : decode b_M_crossAt 0 = .ok (.iload_n 1, 1) := by decide +kernel
theorem d_M_crossAt_1 : decode b_M_crossAt 1 = .ok (.aload_n 0, 1) := by decide +kernel
theorem d_M_crossAt_2 : decode b_M_crossAt 2 = .ok (.getfield 164, 3) := by decide +kernel
theorem d_M_crossAt_5 : decode b_M_crossAt 5 = .ok (.iadd, 1) := by decide +kernel
theorem d_M_crossAt_6 : decode b_M_crossAt 6 = .ok (.iconst 1, 1) := by decide +kernel
theorem d_M_crossAt_7 : decode b_M_crossAt 7 = .ok (.isub, 1) := by decide +kernel
theorem d_M_crossAt_8 : decode b_M_crossAt 8 = .ok (.istore_n 2, 1) := by decide +kernel
theorem d_M_crossAt_9 : decode b_M_crossAt 9 = .ok (.aload_n 0, 1) := by decide +kernel
theorem d_M_crossAt_10 : decode b_M_crossAt 10 = .ok (.iload_n 1, 1) := by decide +kernel
theorem d_M_crossAt_11 : decode b_M_crossAt 11 = .ok (.invokevirtual 177, 3) := by decide +kernel
theorem d_M_crossAt_14 : decode b_M_crossAt 14 = .ok (.aload_n 0, 1) := by decide +kernel
theorem d_M_crossAt_15 : decode b_M_crossAt 15 = .ok (.iload_n 2, 1) := by decide +kernel
theorem d_M_crossAt_16 : decode b_M_crossAt 16 = .ok (.invokevirtual 177, 3) := by decide +kernel
theorem d_M_crossAt_19 : decode b_M_crossAt 19 = .ok (.isub, 1) := by decide +kernel
theorem d_M_crossAt_20 : decode b_M_crossAt 20 = .ok (.istore_n 3, 1) := by decide +kernel
theorem d_M_crossAt_21 : decode b_M_crossAt 21 = .ok (.aload_n 0, 1) := by decide +kernel
theorem d_M_crossAt_22 : decode b_M_crossAt 22 = .ok (.iload_n 1, 1) := by decide +kernel
theorem d_M_crossAt_23 : decode b_M_crossAt 23 = .ok (.invokevirtual 180, 3) := by decide +kernel
theorem d_M_crossAt_26 : decode b_M_crossAt 26 = .ok (.aload_n 0, 1) := by decide +kernel
theorem d_M_crossAt_27 : decode b_M_crossAt 27 = .ok (.iload_n 2, 1) := by decide +kernel
theorem d_M_crossAt_28 : decode b_M_crossAt 28 = .ok (.invokevirtual 180, 3) := by decide +kernel
theorem d_M_crossAt_31 : decode b_M_crossAt 31 = .ok (.isub, 1) := by decide +kernel
theorem d_M_crossAt_32 : decode b_M_crossAt 32 = .ok (.istore 4, 2) := by decide +kernel
theorem d_M_crossAt_34 : decode b_M_crossAt 34 = .ok (.aload_n 0, 1) := by decide +kernel
theorem d_M_crossAt_35 : decode b_M_crossAt 35 = .ok (.iload_n 1, 1) := by decide +kernel
theorem d_M_crossAt_36 : decode b_M_crossAt 36 = .ok (.iconst 1, 1) := by decide +kernel
theorem d_M_crossAt_37 : decode b_M_crossAt 37 = .ok (.iadd, 1) := by decide +kernel
theorem d_M_crossAt_38 : decode b_M_crossAt 38 = .ok (.invokevirtual 177, 3) := by decide +kernel
theorem d_M_crossAt_41 : decode b_M_crossAt 41 = .ok (.aload_n 0, 1) := by decide +kernel
theorem d_M_crossAt_42 : decode b_M_crossAt 42 = .ok (.iload_n 1, 1) := by decide +kernel
theorem d_M_crossAt_43 : decode b_M_crossAt 43 = .ok (.invokevirtual 177, 3) := by decide +kernel
theorem d_M_crossAt_46 : decode b_M_crossAt 46 = .ok (.isub, 1) := by decide +kernel
theorem d_M_crossAt_47 : decode b_M_crossAt 47 = .ok (.istore 5, 2) := by decide +kernel
theorem d_M_crossAt_49 : decode b_M_crossAt 49 = .ok (.aload_n 0, 1) := by decide +kernel
theorem d_M_crossAt_50 : decode b_M_crossAt 50 = .ok (.iload_n 1, 1) := by decide +kernel
theorem d_M_crossAt_51 : decode b_M_crossAt 51 = .ok (.iconst 1, 1) := by decide +kernel
theorem d_M_crossAt_52 : decode b_M_crossAt 52 = .ok (.iadd, 1) := by decide +kernel
theorem d_M_crossAt_53 : decode b_M_crossAt 53 = .ok (.invokevirtual 180, 3) := by decide +kernel
theorem d_M_crossAt_56 : decode b_M_crossAt 56 = .ok (.aload_n 0, 1) := by decide +kernel
theorem d_M_crossAt_57 : decode b_M_crossAt 57 = .ok (.iload_n 1, 1) := by decide +kernel
theorem d_M_crossAt_58 : decode b_M_crossAt 58 = .ok (.invokevirtual 180, 3) := by decide +kernel
theorem d_M_crossAt_61 : decode b_M_crossAt 61 = .ok (.isub, 1) := by decide +kernel
theorem d_M_crossAt_62 : decode b_M_crossAt 62 = .ok (.istore 6, 2) := by decide +kernel
theorem d_M_crossAt_64 : decode b_M_crossAt 64 = .ok (.iload_n 3, 1) := by decide +kernel
theorem d_M_crossAt_65 : decode b_M_crossAt 65 = .ok (.iload 6, 2) := by decide +kernel
theorem d_M_crossAt_67 : decode b_M_crossAt 67 = .ok (.imul, 1) := by decide +kernel
theorem d_M_crossAt_68 : decode b_M_crossAt 68 = .ok (.iload 4, 2) := by decide +kernel
theorem d_M_crossAt_70 : decode b_M_crossAt 70 = .ok (.iload 5, 2) := by decide +kernel
theorem d_M_crossAt_72 : decode b_M_crossAt 72 = .ok (.imul, 1) := by decide +kernel
theorem d_M_crossAt_73 : decode b_M_crossAt 73 = .ok (.isub, 1) := by decide +kernel
theorem d_M_crossAt_74 : decode b_M_crossAt 74 = .ok (.ireturn, 1) := by decide +kernel
theorem d_M_angleAt_0 : decode b_M_angleAt 0 = .ok (.iload_n 1, 1) := by decide +kernel
theorem d_M_angleAt_1 : decode b_M_angleAt 1 = .ok (.aload_n 0, 1) := by decide +kernel
theorem d_M_angleAt_2 : decode b_M_angleAt 2 = .ok (.getfield 164, 3) := by decide +kernel
theorem d_M_angleAt_5 : decode b_M_angleAt 5 = .ok (.iadd, 1) := by decide +kernel
theorem d_M_angleAt_6 : decode b_M_angleAt 6 = .ok (.iconst 1, 1) := by decide +kernel
theorem d_M_angleAt_7 : decode b_M_angleAt 7 = .ok (.isub, 1) := by decide +kernel
theorem d_M_angleAt_8 : decode b_M_angleAt 8 = .ok (.istore_n 2, 1) := by decide +kernel
theorem d_M_angleAt_9 : decode b_M_angleAt 9 = .ok (.aload_n 0, 1) := by decide +kernel
theorem d_M_angleAt_10 : decode b_M_angleAt 10 = .ok (.iload_n 1, 1) := by decide +kernel
theorem d_M_angleAt_11 : decode b_M_angleAt 11 = .ok (.invokevirtual 177, 3) := by decide +kernel
theorem d_M_angleAt_14 : decode b_M_angleAt 14 = .ok (.aload_n 0, 1) := by decide +kernel
theorem d_M_angleAt_15 : decode b_M_angleAt 15 = .ok (.iload_n 2, 1) := by decide +kernel
theorem d_M_angleAt_16 : decode b_M_angleAt 16 = .ok (.invokevirtual 177, 3) := by decide +kernel
theorem d_M_angleAt_19 : decode b_M_angleAt 19 = .ok (.isub, 1) := by decide +kernel
theorem d_M_angleAt_20 : decode b_M_angleAt 20 = .ok (.aload_n 0, 1) := by decide +kernel
theorem d_M_angleAt_21 : decode b_M_angleAt 21 = .ok (.iload_n 1, 1) := by decide +kernel
theorem d_M_angleAt_22 : decode b_M_angleAt 22 = .ok (.iconst 1, 1) := by decide +kernel
theorem d_M_angleAt_23 : decode b_M_angleAt 23 = .ok (.iadd, 1) := by decide +kernel
theorem d_M_angleAt_24 : decode b_M_angleAt 24 = .ok (.invokevirtual 177, 3) := by decide +kernel
theorem d_M_angleAt_27 : decode b_M_angleAt 27 = .ok (.aload_n 0, 1) := by decide +kernel
theorem d_M_angleAt_28 : decode b_M_angleAt 28 = .ok (.iload_n 1, 1) := by decide +kernel
theorem d_M_angleAt_29 : decode b_M_angleAt 29 = .ok (.invokevirtual 177, 3) := by decide +kernel
theorem d_M_angleAt_32 : decode b_M_angleAt 32 = .ok (.isub, 1) := by decide +kernel
