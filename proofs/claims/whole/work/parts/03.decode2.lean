theorem d_M_upright_92 : decode b_M_upright 92 = .ok (.iadd, 1) := by decide +kernel
theorem d_M_upright_93 : decode b_M_upright 93 = .ok (.istore 4, 2) := by decide +kernel
theorem d_M_upright_95 : decode b_M_upright 95 = .ok (.iinc 5 1, 3) := by decide +kernel
theorem d_M_upright_98 : decode b_M_upright 98 = .ok (.goto (-92), 3) := by decide +kernel
theorem d_M_upright_101 : decode b_M_upright 101 = .ok (.iload 4, 2) := by decide +kernel
theorem d_M_upright_103 : decode b_M_upright 103 = .ok (.ireturn, 1) := by decide +kernel
theorem d_M_size_0 : decode b_M_size 0 = .ok (.iload_n 0, 1) := by decide +kernel
theorem d_M_size_1 : decode b_M_size 1 = .ok (.ifCond .ge 8, 3) := by decide +kernel
theorem d_M_size_4 : decode b_M_size 4 = .ok (.iload_n 0, 1) := by decide +kernel
theorem d_M_size_5 : decode b_M_size 5 = .ok (.ineg, 1) := by decide +kernel
theorem d_M_size_6 : decode b_M_size 6 = .ok (.goto 4, 3) := by decide +kernel
theorem d_M_size_9 : decode b_M_size 9 = .ok (.iload_n 0, 1) := by decide +kernel
theorem d_M_size_10 : decode b_M_size 10 = .ok (.ireturn, 1) := by decide +kernel
theorem d_M_liesIn_0 : decode b_M_liesIn 0 = .ok (.aload_n 0, 1) := by decide +kernel
theorem d_M_liesIn_1 : decode b_M_liesIn 1 = .ok (.getfield 22, 3) := by decide +kernel
theorem d_M_liesIn_4 : decode b_M_liesIn 4 = .ok (.iload_n 1, 1) := by decide +kernel
theorem d_M_liesIn_5 : decode b_M_liesIn 5 = .ok (.iaload, 1) := by decide +kernel
theorem d_M_liesIn_6 : decode b_M_liesIn 6 = .ok (.ifCond .ge 7, 3) := by decide +kernel
theorem d_M_liesIn_9 : decode b_M_liesIn 9 = .ok (.iconst 1, 1) := by decide +kernel
theorem d_M_liesIn_10 : decode b_M_liesIn 10 = .ok (.goto 4, 3) := by decide +kernel
theorem d_M_liesIn_13 : decode b_M_liesIn 13 = .ok (.iconst 0, 1) := by decide +kernel
theorem d_M_liesIn_14 : decode b_M_liesIn 14 = .ok (.istore_n 2, 1) := by decide +kernel
theorem d_M_liesIn_15 : decode b_M_liesIn 15 = .ok (.aload_n 0, 1) := by decide +kernel
theorem d_M_liesIn_16 : decode b_M_liesIn 16 = .ok (.iload_n 1, 1) := by decide +kernel
theorem d_M_liesIn_17 : decode b_M_liesIn 17 = .ok (.iconst 0, 1) := by decide +kernel
theorem d_M_liesIn_18 : decode b_M_liesIn 18 = .ok (.invokevirtual 136, 3) := by decide +kernel
theorem d_M_liesIn_21 : decode b_M_liesIn 21 = .ok (.istore_n 3, 1) := by decide +kernel
theorem d_M_liesIn_22 : decode b_M_liesIn 22 = .ok (.iload_n 2, 1) := by decide +kernel
theorem d_M_liesIn_23 : decode b_M_liesIn 23 = .ok (.ifCond .eq 12, 3) := by decide +kernel
theorem d_M_liesIn_26 : decode b_M_liesIn 26 = .ok (.aload_n 0, 1) := by decide +kernel
theorem d_M_liesIn_27 : decode b_M_liesIn 27 = .ok (.iload_n 1, 1) := by decide +kernel
theorem d_M_liesIn_28 : decode b_M_liesIn 28 = .ok (.iconst 0, 1) := by decide +kernel
theorem d_M_liesIn_29 : decode b_M_liesIn 29 = .ok (.invokevirtual 132, 3) := by decide +kernel
theorem d_M_liesIn_32 : decode b_M_liesIn 32 = .ok (.goto 11, 3) := by decide +kernel
theorem d_M_liesIn_35 : decode b_M_liesIn 35 = .ok (.aload_n 0, 1) := by decide +kernel
theorem d_M_liesIn_36 : decode b_M_liesIn 36 = .ok (.iload_n 1, 1) := by decide +kernel
theorem d_M_liesIn_37 : decode b_M_liesIn 37 = .ok (.iconst 0, 1) := by decide +kernel
theorem d_M_liesIn_38 : decode b_M_liesIn 38 = .ok (.invokevirtual 132, 3) := by decide +kernel
theorem d_M_liesIn_41 : decode b_M_liesIn 41 = .ok (.iconst 1, 1) := by decide +kernel
theorem d_M_liesIn_42 : decode b_M_liesIn 42 = .ok (.isub, 1) := by decide +kernel
theorem d_M_liesIn_43 : decode b_M_liesIn 43 = .ok (.istore 4, 2) := by decide +kernel
theorem d_M_liesIn_45 : decode b_M_liesIn 45 = .ok (.iconst (-1), 1) := by decide +kernel
theorem d_M_liesIn_46 : decode b_M_liesIn 46 = .ok (.istore 5, 2) := by decide +kernel
theorem d_M_liesIn_48 : decode b_M_liesIn 48 = .ok (.iconst 0, 1) := by decide +kernel
theorem d_M_liesIn_49 : decode b_M_liesIn 49 = .ok (.istore 6, 2) := by decide +kernel
theorem d_M_liesIn_51 : decode b_M_liesIn 51 = .ok (.iload 6, 2) := by decide +kernel
theorem d_M_liesIn_53 : decode b_M_liesIn 53 = .ok (.aload_n 0, 1) := by decide +kernel
theorem d_M_liesIn_54 : decode b_M_liesIn 54 = .ok (.getfield 83, 3) := by decide +kernel
theorem d_M_liesIn_57 : decode b_M_liesIn 57 = .ok (.if_icmp .ge 110, 3) := by decide +kernel
theorem d_M_liesIn_60 : decode b_M_liesIn 60 = .ok (.iload 6, 2) := by decide +kernel
theorem d_M_liesIn_62 : decode b_M_liesIn 62 = .ok (.iload_n 1, 1) := by decide +kernel
theorem d_M_liesIn_63 : decode b_M_liesIn 63 = .ok (.if_icmp .eq 42, 3) := by decide +kernel
theorem d_M_liesIn_66 : decode b_M_liesIn 66 = .ok (.aload_n 0, 1) := by decide +kernel
theorem d_M_liesIn_67 : decode b_M_liesIn 67 = .ok (.getfield 19, 3) := by decide +kernel
theorem d_M_liesIn_70 : decode b_M_liesIn 70 = .ok (.iload 6, 2) := by decide +kernel
theorem d_M_liesIn_72 : decode b_M_liesIn 72 = .ok (.iaload, 1) := by decide +kernel
theorem d_M_liesIn_73 : decode b_M_liesIn 73 = .ok (.aload_n 0, 1) := by decide +kernel
theorem d_M_liesIn_74 : decode b_M_liesIn 74 = .ok (.getfield 19, 3) := by decide +kernel
theorem d_M_liesIn_77 : decode b_M_liesIn 77 = .ok (.iload_n 1, 1) := by decide +kernel
theorem d_M_liesIn_78 : decode b_M_liesIn 78 = .ok (.iaload, 1) := by decide +kernel
theorem d_M_liesIn_79 : decode b_M_liesIn 79 = .ok (.if_icmp .ne 26, 3) := by decide +kernel
theorem d_M_liesIn_82 : decode b_M_liesIn 82 = .ok (.aload_n 0, 1) := by decide +kernel
theorem d_M_liesIn_83 : decode b_M_liesIn 83 = .ok (.getfield 22, 3) := by decide +kernel
theorem d_M_liesIn_86 : decode b_M_liesIn 86 = .ok (.iload 6, 2) := by decide +kernel
theorem d_M_liesIn_88 : decode b_M_liesIn 88 = .ok (.iaload, 1) := by decide +kernel
theorem d_M_liesIn_89 : decode b_M_liesIn 89 = .ok (.ifCond .ge 7, 3) := by decide +kernel
theorem d_M_liesIn_92 : decode b_M_liesIn 92 = .ok (.iconst 1, 1) := by decide +kernel
theorem d_M_liesIn_93 : decode b_M_liesIn 93 = .ok (.goto 4, 3) := by decide +kernel
theorem d_M_liesIn_96 : decode b_M_liesIn 96 = .ok (.iconst 0, 1) := by decide +kernel
theorem d_M_liesIn_97 : decode b_M_liesIn 97 = .ok (.iload_n 2, 1) := by decide +kernel
theorem d_M_liesIn_98 : decode b_M_liesIn 98 = .ok (.if_icmp .eq 7, 3) := by decide +kernel
theorem d_M_liesIn_101 : decode b_M_liesIn 101 = .ok (.iconst 1, 1) := by decide +kernel
theorem d_M_liesIn_102 : decode b_M_liesIn 102 = .ok (.goto 4, 3) := by decide +kernel
theorem d_M_liesIn_105 : decode b_M_liesIn 105 = .ok (.iconst 0, 1) := by decide +kernel
theorem d_M_liesIn_106 : decode b_M_liesIn 106 = .ok (.istore 7, 2) := by decide +kernel
theorem d_M_liesIn_108 : decode b_M_liesIn 108 = .ok (.iload 7, 2) := by decide +kernel
theorem d_M_liesIn_110 : decode b_M_liesIn 110 = .ok (.ifCond .eq 51, 3) := by decide +kernel
theorem d_M_liesIn_113 : decode b_M_liesIn 113 = .ok (.aload_n 0, 1) := by decide +kernel
theorem d_M_liesIn_114 : decode b_M_liesIn 114 = .ok (.iload 6, 2) := by decide +kernel
theorem d_M_liesIn_116 : decode b_M_liesIn 116 = .ok (.iload_n 3, 1) := by decide +kernel
theorem d_M_liesIn_117 : decode b_M_liesIn 117 = .ok (.iload 4, 2) := by decide +kernel
theorem d_M_liesIn_119 : decode b_M_liesIn 119 = .ok (.invokevirtual 139, 3) := by decide +kernel
theorem d_M_liesIn_122 : decode b_M_liesIn 122 = .ok (.iconst 2, 1) := by decide +kernel
theorem d_M_liesIn_123 : decode b_M_liesIn 123 = .ok (.irem, 1) := by decide +kernel
theorem d_M_liesIn_124 : decode b_M_liesIn 124 = .ok (.iconst 1, 1) := by decide +kernel
theorem d_M_liesIn_125 : decode b_M_liesIn 125 = .ok (.if_icmp .ne 36, 3) := by decide +kernel
theorem d_M_liesIn_128 : decode b_M_liesIn 128 = .ok (.iload 5, 2) := by decide +kernel
theorem d_M_liesIn_130 : decode b_M_liesIn 130 = .ok (.iconst (-1), 1) := by decide +kernel
theorem d_M_liesIn_131 : decode b_M_liesIn 131 = .ok (.if_icmp .eq 26, 3) := by decide +kernel
theorem d_M_liesIn_134 : decode b_M_liesIn 134 = .ok (.aload_n 0, 1) := by decide +kernel
theorem d_M_liesIn_135 : decode b_M_liesIn 135 = .ok (.getfield 22, 3) := by decide +kernel
theorem d_M_liesIn_138 : decode b_M_liesIn 138 = .ok (.iload 6, 2) := by decide +kernel
theorem d_M_liesIn_140 : decode b_M_liesIn 140 = .ok (.iaload, 1) := by decide +kernel
theorem d_M_liesIn_141 : decode b_M_liesIn 141 = .ok (.invokestatic 143, 3) := by decide +kernel
theorem d_M_liesIn_144 : decode b_M_liesIn 144 = .ok (.aload_n 0, 1) := by decide +kernel
theorem d_M_liesIn_145 : decode b_M_liesIn 145 = .ok (.getfield 22, 3) := by decide +kernel
theorem d_M_liesIn_148 : decode b_M_liesIn 148 = .ok (.iload 5, 2) := by decide +kernel
theorem d_M_liesIn_150 : decode b_M_liesIn 150 = .ok (.iaload, 1) := by decide +kernel
theorem d_M_liesIn_151 : decode b_M_liesIn 151 = .ok (.invokestatic 143, 3) := by decide +kernel
theorem d_M_liesIn_154 : decode b_M_liesIn 154 = .ok (.if_icmp .ge 7, 3) := by decide +kernel
theorem d_M_liesIn_157 : decode b_M_liesIn 157 = .ok (.iload 6, 2) := by decide +kernel
theorem d_M_liesIn_159 : decode b_M_liesIn 159 = .ok (.istore 5, 2) := by decide +kernel
theorem d_M_liesIn_161 : decode b_M_liesIn 161 = .ok (.iinc 6 1, 3) := by decide +kernel
theorem d_M_liesIn_164 : decode b_M_liesIn 164 = .ok (.goto (-113), 3) := by decide +kernel
theorem d_M_liesIn_167 : decode b_M_liesIn 167 = .ok (.iload 5, 2) := by decide +kernel
theorem d_M_liesIn_169 : decode b_M_liesIn 169 = .ok (.ireturn, 1) := by decide +kernel
theorem d_M_about_0 : decode b_M_about 0 = .ok (.aload_n 0, 1) := by decide +kernel
theorem d_M_about_1 : decode b_M_about 1 = .ok (.aload_n 0, 1) := by decide +kernel
theorem d_M_about_2 : decode b_M_about 2 = .ok (.getfield 79, 3) := by decide +kernel
theorem d_M_about_5 : decode b_M_about 5 = .ok (.ifCond .ne 7, 3) := by decide +kernel
theorem d_M_about_8 : decode b_M_about 8 = .ok (.iconst 1, 1) := by decide +kernel
theorem d_M_about_9 : decode b_M_about 9 = .ok (.goto 22, 3) := by decide +kernel
theorem d_M_about_12 : decode b_M_about 12 = .ok (.iload_n 1, 1) := by decide +kernel
theorem d_M_about_13 : decode b_M_about 13 = .ok (.iconst 0, 1) := by decide +kernel
theorem d_M_about_14 : decode b_M_about 14 = .ok (.aload_n 0, 1) := by decide +kernel
theorem d_M_about_15 : decode b_M_about 15 = .ok (.getfield 83, 3) := by decide +kernel
theorem d_M_about_18 : decode b_M_about 18 = .ok (.iconst 1, 1) := by decide +kernel
theorem d_M_about_19 : decode b_M_about 19 = .ok (.isub, 1) := by decide +kernel
theorem d_M_about_20 : decode b_M_about 20 = .ok (.invokestatic 75, 3) := by decide +kernel
theorem d_M_about_23 : decode b_M_about 23 = .ok (.ifCond .ne 7, 3) := by decide +kernel
theorem d_M_about_26 : decode b_M_about 26 = .ok (.iconst 2, 1) := by decide +kernel
theorem d_M_about_27 : decode b_M_about 27 = .ok (.goto 4, 3) := by decide +kernel
theorem d_M_about_30 : decode b_M_about 30 = .ok (.iconst 0, 1) := by decide +kernel
theorem d_M_about_31 : decode b_M_about 31 = .ok (.invokevirtual 96, 3) := by decide +kernel
theorem d_M_about_34 : decode b_M_about 34 = .ok (.ifCond .eq 5, 3) := by decide +kernel
theorem d_M_about_37 : decode b_M_about 37 = .ok (.iconst 0, 1) := by decide +kernel
theorem d_M_about_38 : decode b_M_about 38 = .ok (.ireturn, 1) := by decide +kernel
theorem d_M_about_39 : decode b_M_about 39 = .ok (.iload_n 2, 1) := by decide +kernel
theorem d_M_about_40 : decode b_M_about 40 = .ok (.ifCond .ne 12, 3) := by decide +kernel
theorem d_M_about_43 : decode b_M_about 43 = .ok (.aload_n 0, 1) := by decide +kernel
theorem d_M_about_44 : decode b_M_about 44 = .ok (.getfield 16, 3) := by decide +kernel
theorem d_M_about_47 : decode b_M_about 47 = .ok (.iload_n 1, 1) := by decide +kernel
theorem d_M_about_48 : decode b_M_about 48 = .ok (.iaload, 1) := by decide +kernel
theorem d_M_about_49 : decode b_M_about 49 = .ok (.goto 45, 3) := by decide +kernel
theorem d_M_about_52 : decode b_M_about 52 = .ok (.iload_n 2, 1) := by decide +kernel
theorem d_M_about_53 : decode b_M_about 53 = .ok (.iconst 1, 1) := by decide +kernel
theorem d_M_about_54 : decode b_M_about 54 = .ok (.if_icmp .ne 12, 3) := by decide +kernel
theorem d_M_about_57 : decode b_M_about 57 = .ok (.aload_n 0, 1) := by decide +kernel
theorem d_M_about_58 : decode b_M_about 58 = .ok (.getfield 19, 3) := by decide +kernel
theorem d_M_about_61 : decode b_M_about 61 = .ok (.iload_n 1, 1) := by decide +kernel
theorem d_M_about_62 : decode b_M_about 62 = .ok (.iaload, 1) := by decide +kernel
theorem d_M_about_63 : decode b_M_about 63 = .ok (.goto 31, 3) := by decide +kernel
theorem d_M_about_66 : decode b_M_about 66 = .ok (.iload_n 2, 1) := by decide +kernel
theorem d_M_about_67 : decode b_M_about 67 = .ok (.iconst 2, 1) := by decide +kernel
theorem d_M_about_68 : decode b_M_about 68 = .ok (.if_icmp .ne 12, 3) := by decide +kernel
theorem d_M_about_71 : decode b_M_about 71 = .ok (.aload_n 0, 1) := by decide +kernel
theorem d_M_about_72 : decode b_M_about 72 = .ok (.getfield 22, 3) := by decide +kernel
theorem d_M_about_75 : decode b_M_about 75 = .ok (.iload_n 1, 1) := by decide +kernel
theorem d_M_about_76 : decode b_M_about 76 = .ok (.iaload, 1) := by decide +kernel
theorem d_M_about_77 : decode b_M_about 77 = .ok (.goto 17, 3) := by decide +kernel
theorem d_M_about_80 : decode b_M_about 80 = .ok (.iload_n 2, 1) := by decide +kernel
theorem d_M_about_81 : decode b_M_about 81 = .ok (.iconst 3, 1) := by decide +kernel
theorem d_M_about_82 : decode b_M_about 82 = .ok (.if_icmp .ne 11, 3) := by decide +kernel
theorem d_M_about_85 : decode b_M_about 85 = .ok (.aload_n 0, 1) := by decide +kernel
theorem d_M_about_86 : decode b_M_about 86 = .ok (.iload_n 1, 1) := by decide +kernel
theorem d_M_about_87 : decode b_M_about 87 = .ok (.invokevirtual 146, 3) := by decide +kernel
theorem d_M_about_90 : decode b_M_about 90 = .ok (.goto 4, 3) := by decide +kernel
theorem d_M_about_93 : decode b_M_about 93 = .ok (.iconst (-1), 1) := by decide +kernel
theorem d_M_about_94 : decode b_M_about 94 = .ok (.ireturn, 1) := by decide +kernel
theorem d_M_point_0 : decode b_M_point 0 = .ok (.iload_n 1, 1) := by decide +kernel
theorem d_M_point_1 : decode b_M_point 1 = .ok (.iconst 0, 1) := by decide +kernel
theorem d_M_point_2 : decode b_M_point 2 = .ok (.aload_n 0, 1) := by decide +kernel
theorem d_M_point_3 : decode b_M_point 3 = .ok (.getfield 83, 3) := by decide +kernel
theorem d_M_point_6 : decode b_M_point 6 = .ok (.iconst 1, 1) := by decide +kernel
theorem d_M_point_7 : decode b_M_point 7 = .ok (.isub, 1) := by decide +kernel
theorem d_M_point_8 : decode b_M_point 8 = .ok (.invokestatic 75, 3) := by decide +kernel
theorem d_M_point_11 : decode b_M_point 11 = .ok (.ifCond .eq 23, 3) := by decide +kernel
theorem d_M_point_14 : decode b_M_point 14 = .ok (.iload_n 2, 1) := by decide +kernel
theorem d_M_point_15 : decode b_M_point 15 = .ok (.iconst 0, 1) := by decide +kernel
theorem d_M_point_16 : decode b_M_point 16 = .ok (.aload_n 0, 1) := by decide +kernel
theorem d_M_point_17 : decode b_M_point 17 = .ok (.getfield 16, 3) := by decide +kernel
theorem d_M_point_20 : decode b_M_point 20 = .ok (.iload_n 1, 1) := by decide +kernel
theorem d_M_point_21 : decode b_M_point 21 = .ok (.iaload, 1) := by decide +kernel
theorem d_M_point_22 : decode b_M_point 22 = .ok (.iconst 1, 1) := by decide +kernel
theorem d_M_point_23 : decode b_M_point 23 = .ok (.isub, 1) := by decide +kernel
theorem d_M_point_24 : decode b_M_point 24 = .ok (.invokestatic 75, 3) := by decide +kernel
theorem d_M_point_27 : decode b_M_point 27 = .ok (.ifCond .eq 7, 3) := by decide +kernel
theorem d_M_point_30 : decode b_M_point 30 = .ok (.iconst 1, 1) := by decide +kernel
theorem d_M_point_31 : decode b_M_point 31 = .ok (.goto 4, 3) := by decide +kernel
theorem d_M_point_34 : decode b_M_point 34 = .ok (.iconst 0, 1) := by decide +kernel
theorem d_M_point_35 : decode b_M_point 35 = .ok (.istore 4, 2) := by decide +kernel
theorem d_M_point_37 : decode b_M_point 37 = .ok (.aload_n 0, 1) := by decide +kernel
theorem d_M_point_38 : decode b_M_point 38 = .ok (.aload_n 0, 1) := by decide +kernel
theorem d_M_point_39 : decode b_M_point 39 = .ok (.getfield 79, 3) := by decide +kernel
theorem d_M_point_42 : decode b_M_point 42 = .ok (.ifCond .ne 7, 3) := by decide +kernel
theorem d_M_point_45 : decode b_M_point 45 = .ok (.iconst 1, 1) := by decide +kernel
theorem d_M_point_46 : decode b_M_point 46 = .ok (.goto 26, 3) := by decide +kernel
theorem d_M_point_49 : decode b_M_point 49 = .ok (.iload 4, 2) := by decide +kernel
theorem d_M_point_51 : decode b_M_point 51 = .ok (.ifCond .ne 7, 3) := by decide +kernel
theorem d_M_point_54 : decode b_M_point 54 = .ok (.iconst 2, 1) := by decide +kernel
theorem d_M_point_55 : decode b_M_point 55 = .ok (.goto 17, 3) := by decide +kernel
theorem d_M_point_58 : decode b_M_point 58 = .ok (.iload_n 3, 1) := by decide +kernel
theorem d_M_point_59 : decode b_M_point 59 = .ok (.iconst 0, 1) := by decide +kernel
theorem d_M_point_60 : decode b_M_point 60 = .ok (.iconst 1, 1) := by decide +kernel
theorem d_M_point_61 : decode b_M_point 61 = .ok (.invokestatic 75, 3) := by decide +kernel
theorem d_M_point_64 : decode b_M_point 64 = .ok (.ifCond .ne 7, 3) := by decide +kernel
theorem d_M_point_67 : decode b_M_point 67 = .ok (.iconst 3, 1) := by decide +kernel
theorem d_M_point_68 : decode b_M_point 68 = .ok (.goto 4, 3) := by decide +kernel
theorem d_M_point_71 : decode b_M_point 71 = .ok (.iconst 0, 1) := by decide +kernel
theorem d_M_point_72 : decode b_M_point 72 = .ok (.invokevirtual 96, 3) := by decide +kernel
theorem d_M_point_75 : decode b_M_point 75 = .ok (.ifCond .eq 5, 3) := by decide +kernel
theorem d_M_point_78 : decode b_M_point 78 = .ok (.iconst 0, 1) := by decide +kernel
theorem d_M_point_79 : decode b_M_point 79 = .ok (.ireturn, 1) := by decide +kernel
theorem d_M_point_80 : decode b_M_point 80 = .ok (.iload_n 3, 1) := by decide +kernel
theorem d_M_point_81 : decode b_M_point 81 = .ok (.ifCond .ne 12, 3) := by decide +kernel
theorem d_M_point_84 : decode b_M_point 84 = .ok (.aload_n 0, 1) := by decide +kernel
theorem d_M_point_85 : decode b_M_point 85 = .ok (.iload_n 1, 1) := by decide +kernel
theorem d_M_point_86 : decode b_M_point 86 = .ok (.iload_n 2, 1) := by decide +kernel
theorem d_M_point_87 : decode b_M_point 87 = .ok (.invokevirtual 136, 3) := by decide +kernel
theorem d_M_point_90 : decode b_M_point 90 = .ok (.goto 9, 3) := by decide +kernel
theorem d_M_point_93 : decode b_M_point 93 = .ok (.aload_n 0, 1) := by decide +kernel
theorem d_M_point_94 : decode b_M_point 94 = .ok (.iload_n 1, 1) := by decide +kernel
theorem d_M_point_95 : decode b_M_point 95 = .ok (.iload_n 2, 1) := by decide +kernel
theorem d_M_point_96 : decode b_M_point 96 = .ok (.invokevirtual 132, 3) := by decide +kernel
theorem d_M_point_99 : decode b_M_point 99 = .ok (.ireturn, 1) := by decide +kernel
theorem d_M_covered_0 : decode b_M_covered 0 = .ok (.aload_n 0, 1) := by decide +kernel
theorem d_M_covered_1 : decode b_M_covered 1 = .ok (.aload_n 0, 1) := by decide +kernel
theorem d_M_covered_2 : decode b_M_covered 2 = .ok (.getfield 79, 3) := by decide +kernel
theorem d_M_covered_5 : decode b_M_covered 5 = .ok (.ifCond .ne 7, 3) := by decide +kernel
theorem d_M_covered_8 : decode b_M_covered 8 = .ok (.iconst 1, 1) := by decide +kernel
theorem d_M_covered_9 : decode b_M_covered 9 = .ok (.goto 17, 3) := by decide +kernel
theorem d_M_covered_12 : decode b_M_covered 12 = .ok (.aload_n 0, 1) := by decide +kernel
theorem d_M_covered_13 : decode b_M_covered 13 = .ok (.iload_n 1, 1) := by decide +kernel
theorem d_M_covered_14 : decode b_M_covered 14 = .ok (.iload_n 2, 1) := by decide +kernel
theorem d_M_covered_15 : decode b_M_covered 15 = .ok (.invokevirtual 92, 3) := by decide +kernel
theorem d_M_covered_18 : decode b_M_covered 18 = .ok (.ifCond .ne 7, 3) := by decide +kernel
theorem d_M_covered_21 : decode b_M_covered 21 = .ok (.iconst 2, 1) := by decide +kernel
theorem d_M_covered_22 : decode b_M_covered 22 = .ok (.goto 4, 3) := by decide +kernel
theorem d_M_covered_25 : decode b_M_covered 25 = .ok (.iconst 0, 1) := by decide +kernel
theorem d_M_covered_26 : decode b_M_covered 26 = .ok (.invokevirtual 96, 3) := by decide +kernel
theorem d_M_covered_29 : decode b_M_covered 29 = .ok (.ifCond .eq 5, 3) := by decide +kernel
theorem d_M_covered_32 : decode b_M_covered 32 = .ok (.iconst 0, 1) := by decide +kernel
theorem d_M_covered_33 : decode b_M_covered 33 = .ok (.ireturn, 1) := by decide +kernel
theorem d_M_covered_34 : decode b_M_covered 34 = .ok (.iconst 0, 1) := by decide +kernel
theorem d_M_covered_35 : decode b_M_covered 35 = .ok (.istore_n 3, 1) := by decide +kernel
theorem d_M_covered_36 : decode b_M_covered 36 = .ok (.iconst 1, 1) := by decide +kernel
theorem d_M_covered_37 : decode b_M_covered 37 = .ok (.istore 4, 2) := by decide +kernel
theorem d_M_covered_39 : decode b_M_covered 39 = .ok (.iload 4, 2) := by decide +kernel
theorem d_M_covered_41 : decode b_M_covered 41 = .ok (.bipush 8, 2) := by decide +kernel
theorem d_M_covered_43 : decode b_M_covered 43 = .ok (.if_icmp .ge 74, 3) := by decide +kernel
theorem d_M_covered_46 : decode b_M_covered 46 = .ok (.iconst 0, 1) := by decide +kernel
theorem d_M_covered_47 : decode b_M_covered 47 = .ok (.istore 5, 2) := by decide +kernel
theorem d_M_covered_49 : decode b_M_covered 49 = .ok (.iconst 0, 1) := by decide +kernel
theorem d_M_covered_50 : decode b_M_covered 50 = .ok (.istore 6, 2) := by decide +kernel
theorem d_M_covered_52 : decode b_M_covered 52 = .ok (.iload 6, 2) := by decide +kernel
theorem d_M_covered_54 : decode b_M_covered 54 = .ok (.aload_n 0, 1) := by decide +kernel
theorem d_M_covered_55 : decode b_M_covered 55 = .ok (.getfield 83, 3) := by decide +kernel
theorem d_M_covered_58 : decode b_M_covered 58 = .ok (.if_icmp .ge 38, 3) := by decide +kernel
theorem d_M_covered_61 : decode b_M_covered 61 = .ok (.iload 5, 2) := by decide +kernel
theorem d_M_covered_63 : decode b_M_covered 63 = .ok (.aload_n 0, 1) := by decide +kernel
theorem d_M_covered_64 : decode b_M_covered 64 = .ok (.getfield 19, 3) := by decide +kernel
theorem d_M_covered_67 : decode b_M_covered 67 = .ok (.iload 6, 2) := by decide +kernel
theorem d_M_covered_69 : decode b_M_covered 69 = .ok (.iaload, 1) := by decide +kernel
theorem d_M_covered_70 : decode b_M_covered 70 = .ok (.iload 4, 2) := by decide +kernel
theorem d_M_covered_72 : decode b_M_covered 72 = .ok (.if_icmp .ne 14, 3) := by decide +kernel
theorem d_M_covered_75 : decode b_M_covered 75 = .ok (.aload_n 0, 1) := by decide +kernel
theorem d_M_covered_76 : decode b_M_covered 76 = .ok (.iload 6, 2) := by decide +kernel
theorem d_M_covered_78 : decode b_M_covered 78 = .ok (.iload_n 1, 1) := by decide +kernel
theorem d_M_covered_79 : decode b_M_covered 79 = .ok (.iload_n 2, 1) := by decide +kernel
theorem d_M_covered_80 : decode b_M_covered 80 = .ok (.invokevirtual 139, 3) := by decide +kernel
theorem d_M_covered_83 : decode b_M_covered 83 = .ok (.goto 4, 3) := by decide +kernel
theorem d_M_covered_86 : decode b_M_covered 86 = .ok (.iconst 0, 1) := by decide +kernel
theorem d_M_covered_87 : decode b_M_covered 87 = .ok (.iadd, 1) := by decide +kernel
theorem d_M_covered_88 : decode b_M_covered 88 = .ok (.istore 5, 2) := by decide +kernel
theorem d_M_covered_90 : decode b_M_covered 90 = .ok (.iinc 6 1, 3) := by decide +kernel
theorem d_M_covered_93 : decode b_M_covered 93 = .ok (.goto (-41), 3) := by decide +kernel
theorem d_M_covered_96 : decode b_M_covered 96 = .ok (.iload 5, 2) := by decide +kernel
theorem d_M_covered_98 : decode b_M_covered 98 = .ok (.iconst 2, 1) := by decide +kernel
theorem d_M_covered_99 : decode b_M_covered 99 = .ok (.irem, 1) := by decide +kernel
theorem d_M_covered_100 : decode b_M_covered 100 = .ok (.iconst 1, 1) := by decide +kernel
theorem d_M_covered_101 : decode b_M_covered 101 = .ok (.if_icmp .ne 8, 3) := by decide +kernel
theorem d_M_covered_104 : decode b_M_covered 104 = .ok (.iload 4, 2) := by decide +kernel
theorem d_M_covered_106 : decode b_M_covered 106 = .ok (.goto 4, 3) := by decide +kernel
theorem d_M_covered_109 : decode b_M_covered 109 = .ok (.iload_n 3, 1) := by decide +kernel
theorem d_M_covered_110 : decode b_M_covered 110 = .ok (.istore_n 3, 1) := by decide +kernel
theorem d_M_covered_111 : decode b_M_covered 111 = .ok (.iinc 4 1, 3) := by decide +kernel
theorem d_M_covered_114 : decode b_M_covered 114 = .ok (.goto (-75), 3) := by decide +kernel
theorem d_M_covered_117 : decode b_M_covered 117 = .ok (.iload_n 3, 1) := by decide +kernel
theorem d_M_covered_118 : decode b_M_covered 118 = .ok (.ireturn, 1) := by decide +kernel
theorem d_M_apart_0 : decode b_M_apart 0 = .ok (.iload_n 0, 1) := by decide +kernel
theorem d_M_apart_1 : decode b_M_apart 1 = .ok (.iload_n 1, 1) := by decide +kernel
theorem d_M_apart_2 : decode b_M_apart 2 = .ok (.if_icmp .ge 9, 3) := by decide +kernel
theorem d_M_apart_5 : decode b_M_apart 5 = .ok (.iload_n 1, 1) := by decide +kernel
theorem d_M_apart_6 : decode b_M_apart 6 = .ok (.iload_n 0, 1) := by decide +kernel
theorem d_M_apart_7 : decode b_M_apart 7 = .ok (.isub, 1) := by decide +kernel
theorem d_M_apart_8 : decode b_M_apart 8 = .ok (.goto 6, 3) := by decide +kernel
theorem d_M_apart_11 : decode b_M_apart 11 = .ok (.iload_n 0, 1) := by decide +kernel
theorem d_M_apart_12 : decode b_M_apart 12 = .ok (.iload_n 1, 1) := by decide +kernel
theorem d_M_apart_13 : decode b_M_apart 13 = .ok (.isub, 1) := by decide +kernel
theorem d_M_apart_14 : decode b_M_apart 14 = .ok (.ireturn, 1) := by decide +kernel
theorem d_M_costOf_0 : decode b_M_costOf 0 = .ok (.iload_n 3, 1) := by decide +kernel
theorem d_M_costOf_1 : decode b_M_costOf 1 = .ok (.iconst 1, 1) := by decide +kernel
theorem d_M_costOf_2 : decode b_M_costOf 2 = .ok (.if_icmp .ne 5, 3) := by decide +kernel
theorem d_M_costOf_5 : decode b_M_costOf 5 = .ok (.iconst 0, 1) := by decide +kernel
theorem d_M_costOf_6 : decode b_M_costOf 6 = .ok (.ireturn, 1) := by decide +kernel
theorem d_M_costOf_7 : decode b_M_costOf 7 = .ok (.aload_n 0, 1) := by decide +kernel
theorem d_M_costOf_8 : decode b_M_costOf 8 = .ok (.iload_n 1, 1) := by decide +kernel
theorem d_M_costOf_9 : decode b_M_costOf 9 = .ok (.iload_n 2, 1) := by decide +kernel
theorem d_M_costOf_10 : decode b_M_costOf 10 = .ok (.invokevirtual 136, 3) := by decide +kernel
theorem d_M_costOf_13 : decode b_M_costOf 13 = .ok (.istore 5, 2) := by decide +kernel
theorem d_M_costOf_15 : decode b_M_costOf 15 = .ok (.aload_n 0, 1) := by decide +kernel
theorem d_M_costOf_16 : decode b_M_costOf 16 = .ok (.iload_n 1, 1) := by decide +kernel
theorem d_M_costOf_17 : decode b_M_costOf 17 = .ok (.iload_n 2, 1) := by decide +kernel
theorem d_M_costOf_18 : decode b_M_costOf 18 = .ok (.invokevirtual 132, 3) := by decide +kernel
theorem d_M_costOf_21 : decode b_M_costOf 21 = .ok (.istore 6, 2) := by decide +kernel
theorem d_M_costOf_23 : decode b_M_costOf 23 = .ok (.aload_n 0, 1) := by decide +kernel
theorem d_M_costOf_24 : decode b_M_costOf 24 = .ok (.iload_n 1, 1) := by decide +kernel
theorem d_M_costOf_25 : decode b_M_costOf 25 = .ok (.iload_n 2, 1) := by decide +kernel
theorem d_M_costOf_26 : decode b_M_costOf 26 = .ok (.iload_n 3, 1) := by decide +kernel
theorem d_M_costOf_27 : decode b_M_costOf 27 = .ok (.iadd, 1) := by decide +kernel
theorem d_M_costOf_28 : decode b_M_costOf 28 = .ok (.invokevirtual 136, 3) := by decide +kernel
theorem d_M_costOf_31 : decode b_M_costOf 31 = .ok (.istore 7, 2) := by decide +kernel
theorem d_M_costOf_33 : decode b_M_costOf 33 = .ok (.aload_n 0, 1) := by decide +kernel
theorem d_M_costOf_34 : decode b_M_costOf 34 = .ok (.iload_n 1, 1) := by decide +kernel
theorem d_M_costOf_35 : decode b_M_costOf 35 = .ok (.iload_n 2, 1) := by decide +kernel
theorem d_M_costOf_36 : decode b_M_costOf 36 = .ok (.iload_n 3, 1) := by decide +kernel
theorem d_M_costOf_37 : decode b_M_costOf 37 = .ok (.iadd, 1) := by decide +kernel
theorem d_M_costOf_38 : decode b_M_costOf 38 = .ok (.invokevirtual 132, 3) := by decide +kernel
theorem d_M_costOf_41 : decode b_M_costOf 41 = .ok (.istore 8, 2) := by decide +kernel
theorem d_M_costOf_43 : decode b_M_costOf 43 = .ok (.iload 5, 2) := by decide +kernel
theorem d_M_costOf_45 : decode b_M_costOf 45 = .ok (.iload 7, 2) := by decide +kernel
theorem d_M_costOf_47 : decode b_M_costOf 47 = .ok (.invokestatic 149, 3) := by decide +kernel
theorem d_M_costOf_50 : decode b_M_costOf 50 = .ok (.istore 9, 2) := by decide +kernel
theorem d_M_costOf_52 : decode b_M_costOf 52 = .ok (.iload 6, 2) := by decide +kernel
theorem d_M_costOf_54 : decode b_M_costOf 54 = .ok (.iload 8, 2) := by decide +kernel
theorem d_M_costOf_56 : decode b_M_costOf 56 = .ok (.invokestatic 149, 3) := by decide +kernel
theorem d_M_costOf_59 : decode b_M_costOf 59 = .ok (.istore 10, 2) := by decide +kernel
theorem d_M_costOf_61 : decode b_M_costOf 61 = .ok (.iload 4, 2) := by decide +kernel
theorem d_M_costOf_63 : decode b_M_costOf 63 = .ok (.iload 9, 2) := by decide +kernel
theorem d_M_costOf_65 : decode b_M_costOf 65 = .ok (.iload 10, 2) := by decide +kernel
theorem d_M_costOf_67 : decode b_M_costOf 67 = .ok (.if_icmp .le 8, 3) := by decide +kernel
theorem d_M_costOf_70 : decode b_M_costOf 70 = .ok (.iload 9, 2) := by decide +kernel
theorem d_M_costOf_72 : decode b_M_costOf 72 = .ok (.goto 5, 3) := by decide +kernel
theorem d_M_costOf_75 : decode b_M_costOf 75 = .ok (.iload 10, 2) := by decide +kernel
theorem d_M_costOf_77 : decode b_M_costOf 77 = .ok (.imul, 1) := by decide +kernel
theorem d_M_costOf_78 : decode b_M_costOf 78 = .ok (.istore 11, 2) := by decide +kernel
theorem d_M_costOf_80 : decode b_M_costOf 80 = .ok (.iconst 0, 1) := by decide +kernel
theorem d_M_costOf_81 : decode b_M_costOf 81 = .ok (.istore 12, 2) := by decide +kernel
theorem d_M_costOf_83 : decode b_M_costOf 83 = .ok (.iconst 0, 1) := by decide +kernel
theorem d_M_costOf_84 : decode b_M_costOf 84 = .ok (.istore 13, 2) := by decide +kernel
theorem d_M_costOf_86 : decode b_M_costOf 86 = .ok (.iconst 0, 1) := by decide +kernel
theorem d_M_costOf_87 : decode b_M_costOf 87 = .ok (.istore 14, 2) := by decide +kernel
theorem d_M_costOf_89 : decode b_M_costOf 89 = .ok (.iload 14, 2) := by decide +kernel
theorem d_M_costOf_91 : decode b_M_costOf 91 = .ok (.iload_n 3, 1) := by decide +kernel
theorem d_M_costOf_92 : decode b_M_costOf 92 = .ok (.if_icmp .ge 155, 3) := by decide +kernel
theorem d_M_costOf_95 : decode b_M_costOf 95 = .ok (.aload_n 0, 1) := by decide +kernel
theorem d_M_costOf_96 : decode b_M_costOf 96 = .ok (.iload_n 1, 1) := by decide +kernel
theorem d_M_costOf_97 : decode b_M_costOf 97 = .ok (.iload_n 2, 1) := by decide +kernel
theorem d_M_costOf_98 : decode b_M_costOf 98 = .ok (.iload 14, 2) := by decide +kernel
theorem d_M_costOf_100 : decode b_M_costOf 100 = .ok (.iadd, 1) := by decide +kernel
theorem d_M_costOf_101 : decode b_M_costOf 101 = .ok (.invokevirtual 136, 3) := by decide +kernel
theorem d_M_costOf_104 : decode b_M_costOf 104 = .ok (.istore 15, 2) := by decide +kernel
theorem d_M_costOf_106 : decode b_M_costOf 106 = .ok (.aload_n 0, 1) := by decide +kernel
theorem d_M_costOf_107 : decode b_M_costOf 107 = .ok (.iload_n 1, 1) := by decide +kernel
theorem d_M_costOf_108 : decode b_M_costOf 108 = .ok (.iload_n 2, 1) := by decide +kernel
theorem d_M_costOf_109 : decode b_M_costOf 109 = .ok (.iload 14, 2) := by decide +kernel
theorem d_M_costOf_111 : decode b_M_costOf 111 = .ok (.iadd, 1) := by decide +kernel
theorem d_M_costOf_112 : decode b_M_costOf 112 = .ok (.invokevirtual 132, 3) := by decide +kernel
theorem d_M_costOf_115 : decode b_M_costOf 115 = .ok (.istore 16, 2) := by decide +kernel
theorem d_M_costOf_117 : decode b_M_costOf 117 = .ok (.iload 7, 2) := by decide +kernel
theorem d_M_costOf_119 : decode b_M_costOf 119 = .ok (.iload 5, 2) := by decide +kernel
theorem d_M_costOf_121 : decode b_M_costOf 121 = .ok (.isub, 1) := by decide +kernel
theorem d_M_costOf_122 : decode b_M_costOf 122 = .ok (.iload 16, 2) := by decide +kernel
theorem d_M_costOf_124 : decode b_M_costOf 124 = .ok (.iload 6, 2) := by decide +kernel
theorem d_M_costOf_126 : decode b_M_costOf 126 = .ok (.isub, 1) := by decide +kernel
theorem d_M_costOf_127 : decode b_M_costOf 127 = .ok (.imul, 1) := by decide +kernel
theorem d_M_costOf_128 : decode b_M_costOf 128 = .ok (.iload 8, 2) := by decide +kernel
theorem d_M_costOf_130 : decode b_M_costOf 130 = .ok (.iload 6, 2) := by decide +kernel
theorem d_M_costOf_132 : decode b_M_costOf 132 = .ok (.isub, 1) := by decide +kernel
theorem d_M_costOf_133 : decode b_M_costOf 133 = .ok (.iload 15, 2) := by decide +kernel
theorem d_M_costOf_135 : decode b_M_costOf 135 = .ok (.iload 5, 2) := by decide +kernel
theorem d_M_costOf_137 : decode b_M_costOf 137 = .ok (.isub, 1) := by decide +kernel
theorem d_M_costOf_138 : decode b_M_costOf 138 = .ok (.imul, 1) := by decide +kernel
theorem d_M_costOf_139 : decode b_M_costOf 139 = .ok (.isub, 1) := by decide +kernel
theorem d_M_costOf_140 : decode b_M_costOf 140 = .ok (.istore 17, 2) := by decide +kernel
theorem d_M_costOf_142 : decode b_M_costOf 142 = .ok (.iload 17, 2) := by decide +kernel
theorem d_M_costOf_144 : decode b_M_costOf 144 = .ok (.ifCond .ge 9, 3) := by decide +kernel
theorem d_M_costOf_147 : decode b_M_costOf 147 = .ok (.iload 17, 2) := by decide +kernel
theorem d_M_costOf_149 : decode b_M_costOf 149 = .ok (.ineg, 1) := by decide +kernel
theorem d_M_costOf_150 : decode b_M_costOf 150 = .ok (.goto 5, 3) := by decide +kernel
theorem d_M_costOf_153 : decode b_M_costOf 153 = .ok (.iload 17, 2) := by decide +kernel
theorem d_M_costOf_155 : decode b_M_costOf 155 = .ok (.istore 18, 2) := by decide +kernel
theorem d_M_costOf_157 : decode b_M_costOf 157 = .ok (.iconst 2, 1) := by decide +kernel
theorem d_M_costOf_158 : decode b_M_costOf 158 = .ok (.iload 18, 2) := by decide +kernel
theorem d_M_costOf_160 : decode b_M_costOf 160 = .ok (.imul, 1) := by decide +kernel
theorem d_M_costOf_161 : decode b_M_costOf 161 = .ok (.iload 11, 2) := by decide +kernel
theorem d_M_costOf_163 : decode b_M_costOf 163 = .ok (.if_icmp .le 5, 3) := by decide +kernel
theorem d_M_costOf_166 : decode b_M_costOf 166 = .ok (.iconst (-1), 1) := by decide +kernel
theorem d_M_costOf_167 : decode b_M_costOf 167 = .ok (.ireturn, 1) := by decide +kernel
theorem d_M_costOf_168 : decode b_M_costOf 168 = .ok (.iload 13, 2) := by decide +kernel
theorem d_M_costOf_170 : decode b_M_costOf 170 = .ok (.iload 18, 2) := by decide +kernel
theorem d_M_costOf_172 : decode b_M_costOf 172 = .ok (.iadd, 1) := by decide +kernel
theorem d_M_costOf_173 : decode b_M_costOf 173 = .ok (.istore 13, 2) := by decide +kernel
theorem d_M_costOf_175 : decode b_M_costOf 175 = .ok (.aload_n 0, 1) := by decide +kernel
theorem d_M_costOf_176 : decode b_M_costOf 176 = .ok (.iload_n 1, 1) := by decide +kernel
theorem d_M_costOf_177 : decode b_M_costOf 177 = .ok (.iload_n 2, 1) := by decide +kernel
theorem d_M_costOf_178 : decode b_M_costOf 178 = .ok (.iload 14, 2) := by decide +kernel
theorem d_M_costOf_180 : decode b_M_costOf 180 = .ok (.iadd, 1) := by decide +kernel
theorem d_M_costOf_181 : decode b_M_costOf 181 = .ok (.iconst 1, 1) := by decide +kernel
theorem d_M_costOf_182 : decode b_M_costOf 182 = .ok (.iadd, 1) := by decide +kernel
theorem d_M_costOf_183 : decode b_M_costOf 183 = .ok (.invokevirtual 136, 3) := by decide +kernel
theorem d_M_costOf_186 : decode b_M_costOf 186 = .ok (.iload 15, 2) := by decide +kernel
theorem d_M_costOf_188 : decode b_M_costOf 188 = .ok (.isub, 1) := by decide +kernel
theorem d_M_costOf_189 : decode b_M_costOf 189 = .ok (.istore 19, 2) := by decide +kernel
theorem d_M_costOf_191 : decode b_M_costOf 191 = .ok (.aload_n 0, 1) := by decide +kernel
theorem d_M_costOf_192 : decode b_M_costOf 192 = .ok (.iload_n 1, 1) := by decide +kernel
theorem d_M_costOf_193 : decode b_M_costOf 193 = .ok (.iload_n 2, 1) := by decide +kernel
theorem d_M_costOf_194 : decode b_M_costOf 194 = .ok (.iload 14, 2) := by decide +kernel
theorem d_M_costOf_196 : decode b_M_costOf 196 = .ok (.iadd, 1) := by decide +kernel
theorem d_M_costOf_197 : decode b_M_costOf 197 = .ok (.iconst 1, 1) := by decide +kernel
theorem d_M_costOf_198 : decode b_M_costOf 198 = .ok (.iadd, 1) := by decide +kernel
theorem d_M_costOf_199 : decode b_M_costOf 199 = .ok (.invokevirtual 132, 3) := by decide +kernel
theorem d_M_costOf_202 : decode b_M_costOf 202 = .ok (.iload 16, 2) := by decide +kernel
theorem d_M_costOf_204 : decode b_M_costOf 204 = .ok (.isub, 1) := by decide +kernel
theorem d_M_costOf_205 : decode b_M_costOf 205 = .ok (.istore 20, 2) := by decide +kernel
theorem d_M_costOf_207 : decode b_M_costOf 207 = .ok (.iload 12, 2) := by decide +kernel
theorem d_M_costOf_209 : decode b_M_costOf 209 = .ok (.iload 19, 2) := by decide +kernel
theorem d_M_costOf_211 : decode b_M_costOf 211 = .ok (.ifCond .le 7, 3) := by decide +kernel
theorem d_M_costOf_214 : decode b_M_costOf 214 = .ok (.iconst 1, 1) := by decide +kernel
theorem d_M_costOf_215 : decode b_M_costOf 215 = .ok (.goto 23, 3) := by decide +kernel
theorem d_M_costOf_218 : decode b_M_costOf 218 = .ok (.iload 19, 2) := by decide +kernel
theorem d_M_costOf_220 : decode b_M_costOf 220 = .ok (.ifCond .ge 7, 3) := by decide +kernel
theorem d_M_costOf_223 : decode b_M_costOf 223 = .ok (.iconst 2, 1) := by decide +kernel
theorem d_M_costOf_224 : decode b_M_costOf 224 = .ok (.goto 14, 3) := by decide +kernel
theorem d_M_costOf_227 : decode b_M_costOf 227 = .ok (.iload 20, 2) := by decide +kernel
theorem d_M_costOf_229 : decode b_M_costOf 229 = .ok (.ifCond .le 7, 3) := by decide +kernel
theorem d_M_costOf_232 : decode b_M_costOf 232 = .ok (.iconst 4, 1) := by decide +kernel
theorem d_M_costOf_233 : decode b_M_costOf 233 = .ok (.goto 5, 3) := by decide +kernel
theorem d_M_costOf_236 : decode b_M_costOf 236 = .ok (.bipush 8, 2) := by decide +kernel
theorem d_M_costOf_238 : decode b_M_costOf 238 = .ok (.ior, 1) := by decide +kernel
theorem d_M_costOf_239 : decode b_M_costOf 239 = .ok (.istore 12, 2) := by decide +kernel
theorem d_M_costOf_241 : decode b_M_costOf 241 = .ok (.iinc 14 1, 3) := by decide +kernel
theorem d_M_costOf_244 : decode b_M_costOf 244 = .ok (.goto (-155), 3) := by decide +kernel
theorem d_M_costOf_247 : decode b_M_costOf 247 = .ok (.iload 12, 2) := by decide +kernel
theorem d_M_costOf_249 : decode b_M_costOf 249 = .ok (.bipush 15, 2) := by decide +kernel
theorem d_M_costOf_251 : decode b_M_costOf 251 = .ok (.if_icmp .ne 7, 3) := by decide +kernel
theorem d_M_costOf_254 : decode b_M_costOf 254 = .ok (.iconst (-1), 1) := by decide +kernel
theorem d_M_costOf_255 : decode b_M_costOf 255 = .ok (.goto 5, 3) := by decide +kernel
theorem d_M_costOf_258 : decode b_M_costOf 258 = .ok (.iload 13, 2) := by decide +kernel
theorem d_M_costOf_260 : decode b_M_costOf 260 = .ok (.ireturn, 1) := by decide +kernel
theorem d_M_piece_0 : decode b_M_piece 0 = .ok (.iload_n 1, 1) := by decide +kernel
theorem d_M_piece_1 : decode b_M_piece 1 = .ok (.iconst 0, 1) := by decide +kernel
theorem d_M_piece_2 : decode b_M_piece 2 = .ok (.aload_n 0, 1) := by decide +kernel
theorem d_M_piece_3 : decode b_M_piece 3 = .ok (.getfield 83, 3) := by decide +kernel
theorem d_M_piece_6 : decode b_M_piece 6 = .ok (.iconst 1, 1) := by decide +kernel
theorem d_M_piece_7 : decode b_M_piece 7 = .ok (.isub, 1) := by decide +kernel
theorem d_M_piece_8 : decode b_M_piece 8 = .ok (.invokestatic 75, 3) := by decide +kernel
theorem d_M_piece_11 : decode b_M_piece 11 = .ok (.ifCond .eq 23, 3) := by decide +kernel
theorem d_M_piece_14 : decode b_M_piece 14 = .ok (.iload_n 2, 1) := by decide +kernel
theorem d_M_piece_15 : decode b_M_piece 15 = .ok (.iconst 0, 1) := by decide +kernel
theorem d_M_piece_16 : decode b_M_piece 16 = .ok (.aload_n 0, 1) := by decide +kernel
theorem d_M_piece_17 : decode b_M_piece 17 = .ok (.getfield 16, 3) := by decide +kernel
theorem d_M_piece_20 : decode b_M_piece 20 = .ok (.iload_n 1, 1) := by decide +kernel
theorem d_M_piece_21 : decode b_M_piece 21 = .ok (.iaload, 1) := by decide +kernel
theorem d_M_piece_22 : decode b_M_piece 22 = .ok (.iconst 1, 1) := by decide +kernel
theorem d_M_piece_23 : decode b_M_piece 23 = .ok (.isub, 1) := by decide +kernel
theorem d_M_piece_24 : decode b_M_piece 24 = .ok (.invokestatic 75, 3) := by decide +kernel
theorem d_M_piece_27 : decode b_M_piece 27 = .ok (.ifCond .eq 7, 3) := by decide +kernel
theorem d_M_piece_30 : decode b_M_piece 30 = .ok (.iconst 1, 1) := by decide +kernel
theorem d_M_piece_31 : decode b_M_piece 31 = .ok (.goto 4, 3) := by decide +kernel
theorem d_M_piece_34 : decode b_M_piece 34 = .ok (.iconst 0, 1) := by decide +kernel
theorem d_M_piece_35 : decode b_M_piece 35 = .ok (.istore 5, 2) := by decide +kernel
theorem d_M_piece_37 : decode b_M_piece 37 = .ok (.aload_n 0, 1) := by decide +kernel
theorem d_M_piece_38 : decode b_M_piece 38 = .ok (.aload_n 0, 1) := by decide +kernel
theorem d_M_piece_39 : decode b_M_piece 39 = .ok (.getfield 79, 3) := by decide +kernel
theorem d_M_piece_42 : decode b_M_piece 42 = .ok (.ifCond .ne 7, 3) := by decide +kernel
theorem d_M_piece_45 : decode b_M_piece 45 = .ok (.iconst 1, 1) := by decide +kernel
theorem d_M_piece_46 : decode b_M_piece 46 = .ok (.goto 38, 3) := by decide +kernel
theorem d_M_piece_49 : decode b_M_piece 49 = .ok (.iload 5, 2) := by decide +kernel
theorem d_M_piece_51 : decode b_M_piece 51 = .ok (.ifCond .ne 7, 3) := by decide +kernel
theorem d_M_piece_54 : decode b_M_piece 54 = .ok (.iconst 2, 1) := by decide +kernel
theorem d_M_piece_55 : decode b_M_piece 55 = .ok (.goto 29, 3) := by decide +kernel
theorem d_M_piece_58 : decode b_M_piece 58 = .ok (.iload_n 3, 1) := by decide +kernel
theorem d_M_piece_59 : decode b_M_piece 59 = .ok (.iconst 1, 1) := by decide +kernel
theorem d_M_piece_60 : decode b_M_piece 60 = .ok (.bipush 24, 2) := by decide +kernel
theorem d_M_piece_62 : decode b_M_piece 62 = .ok (.invokestatic 75, 3) := by decide +kernel
theorem d_M_piece_65 : decode b_M_piece 65 = .ok (.ifCond .eq 14, 3) := by decide +kernel
theorem d_M_piece_68 : decode b_M_piece 68 = .ok (.iload 4, 2) := by decide +kernel
theorem d_M_piece_70 : decode b_M_piece 70 = .ok (.iconst 1, 1) := by decide +kernel
theorem d_M_piece_71 : decode b_M_piece 71 = .ok (.bipush 8, 2) := by decide +kernel
theorem d_M_piece_73 : decode b_M_piece 73 = .ok (.invokestatic 75, 3) := by decide +kernel
theorem d_M_piece_76 : decode b_M_piece 76 = .ok (.ifCond .ne 7, 3) := by decide +kernel
theorem d_M_piece_79 : decode b_M_piece 79 = .ok (.iconst 3, 1) := by decide +kernel
theorem d_M_piece_80 : decode b_M_piece 80 = .ok (.goto 4, 3) := by decide +kernel
theorem d_M_piece_83 : decode b_M_piece 83 = .ok (.iconst 0, 1) := by decide +kernel
theorem d_M_piece_84 : decode b_M_piece 84 = .ok (.invokevirtual 96, 3) := by decide +kernel
theorem d_M_piece_87 : decode b_M_piece 87 = .ok (.ifCond .eq 5, 3) := by decide +kernel
theorem d_M_piece_90 : decode b_M_piece 90 = .ok (.iconst 0, 1) := by decide +kernel
theorem d_M_piece_91 : decode b_M_piece 91 = .ok (.ireturn, 1) := by decide +kernel
theorem d_M_piece_92 : decode b_M_piece 92 = .ok (.aload_n 0, 1) := by decide +kernel
theorem d_M_piece_93 : decode b_M_piece 93 = .ok (.iload_n 1, 1) := by decide +kernel
theorem d_M_piece_94 : decode b_M_piece 94 = .ok (.iload_n 2, 1) := by decide +kernel
theorem d_M_piece_95 : decode b_M_piece 95 = .ok (.iload_n 3, 1) := by decide +kernel
theorem d_M_piece_96 : decode b_M_piece 96 = .ok (.iload 4, 2) := by decide +kernel
theorem d_M_piece_98 : decode b_M_piece 98 = .ok (.invokevirtual 152, 3) := by decide +kernel
theorem d_M_piece_101 : decode b_M_piece 101 = .ok (.ireturn, 1) := by decide +kernel
theorem d_M_isLess_0 : decode b_M_isLess 0 = .ok (.iload_n 0, 1) := by decide +kernel
theorem d_M_isLess_1 : decode b_M_isLess 1 = .ok (.iload_n 2, 1) := by decide +kernel
theorem d_M_isLess_2 : decode b_M_isLess 2 = .ok (.if_icmp .lt 13, 3) := by decide +kernel
theorem d_M_isLess_5 : decode b_M_isLess 5 = .ok (.iload_n 0, 1) := by decide +kernel
theorem d_M_isLess_6 : decode b_M_isLess 6 = .ok (.iload_n 2, 1) := by decide +kernel
theorem d_M_isLess_7 : decode b_M_isLess 7 = .ok (.if_icmp .ne 12, 3) := by decide +kernel
theorem d_M_isLess_10 : decode b_M_isLess 10 = .ok (.iload_n 1, 1) := by decide +kernel
theorem d_M_isLess_11 : decode b_M_isLess 11 = .ok (.iload_n 3, 1) := by decide +kernel
theorem d_M_isLess_12 : decode b_M_isLess 12 = .ok (.if_icmp .ge 7, 3) := by decide +kernel
theorem d_M_isLess_15 : decode b_M_isLess 15 = .ok (.iconst 1, 1) := by decide +kernel
theorem d_M_isLess_16 : decode b_M_isLess 16 = .ok (.goto 4, 3) := by decide +kernel
theorem d_M_isLess_19 : decode b_M_isLess 19 = .ok (.iconst 0, 1) := by decide +kernel
theorem d_M_isLess_20 : decode b_M_isLess 20 = .ok (.ireturn, 1) := by decide +kernel
theorem d_M_fill_0 : decode b_M_fill 0 = .ok (.aload_n 0, 1) := by decide +kernel
theorem d_M_fill_1 : decode b_M_fill 1 = .ok (.getfield 16, 3) := by decide +kernel
theorem d_M_fill_4 : decode b_M_fill 4 = .ok (.iload_n 1, 1) := by decide +kernel
theorem d_M_fill_5 : decode b_M_fill 5 = .ok (.iaload, 1) := by decide +kernel
theorem d_M_fill_6 : decode b_M_fill 6 = .ok (.istore 4, 2) := by decide +kernel
theorem d_M_fill_8 : decode b_M_fill 8 = .ok (.iload_n 2, 1) := by decide +kernel
theorem d_M_fill_9 : decode b_M_fill 9 = .ok (.iload 4, 2) := by decide +kernel
theorem d_M_fill_11 : decode b_M_fill 11 = .ok (.iadd, 1) := by decide +kernel
theorem d_M_fill_12 : decode b_M_fill 12 = .ok (.istore 5, 2) := by decide +kernel
theorem d_M_fill_14 : decode b_M_fill 14 = .ok (.iconst 0, 1) := by decide +kernel
theorem d_M_fill_15 : decode b_M_fill 15 = .ok (.istore 6, 2) := by decide +kernel
theorem d_M_fill_17 : decode b_M_fill 17 = .ok (.iload 6, 2) := by decide +kernel
theorem d_M_fill_19 : decode b_M_fill 19 = .ok (.iconst 4, 1) := by decide +kernel
theorem d_M_fill_20 : decode b_M_fill 20 = .ok (.if_icmp .ge 49, 3) := by decide +kernel
theorem d_M_fill_23 : decode b_M_fill 23 = .ok (.aload_n 0, 1) := by decide +kernel
theorem d_M_fill_24 : decode b_M_fill 24 = .ok (.getfield 38, 3) := by decide +kernel
theorem d_M_fill_27 : decode b_M_fill 27 = .ok (.sipush 600, 3) := by decide +kernel
theorem d_M_fill_30 : decode b_M_fill 30 = .ok (.iload 6, 2) := by decide +kernel
theorem d_M_fill_32 : decode b_M_fill 32 = .ok (.imul, 1) := by decide +kernel
theorem d_M_fill_33 : decode b_M_fill 33 = .ok (.iload 5, 2) := by decide +kernel
theorem d_M_fill_35 : decode b_M_fill 35 = .ok (.iadd, 1) := by decide +kernel
theorem d_M_fill_36 : decode b_M_fill 36 = .ok (.iload 6, 2) := by decide +kernel
theorem d_M_fill_38 : decode b_M_fill 38 = .ok (.ifCond .ne 7, 3) := by decide +kernel
theorem d_M_fill_41 : decode b_M_fill 41 = .ok (.iconst 0, 1) := by decide +kernel
theorem d_M_fill_42 : decode b_M_fill 42 = .ok (.goto 5, 3) := by decide +kernel
theorem d_M_fill_45 : decode b_M_fill 45 = .ok (.ldc 156, 2) := by decide +kernel
theorem d_M_fill_47 : decode b_M_fill 47 = .ok (.iastore, 1) := by decide +kernel
theorem d_M_fill_48 : decode b_M_fill 48 = .ok (.aload_n 0, 1) := by decide +kernel
theorem d_M_fill_49 : decode b_M_fill 49 = .ok (.getfield 41, 3) := by decide +kernel
theorem d_M_fill_52 : decode b_M_fill 52 = .ok (.sipush 600, 3) := by decide +kernel
theorem d_M_fill_55 : decode b_M_fill 55 = .ok (.iload 6, 2) := by decide +kernel
theorem d_M_fill_57 : decode b_M_fill 57 = .ok (.imul, 1) := by decide +kernel
theorem d_M_fill_58 : decode b_M_fill 58 = .ok (.iload 5, 2) := by decide +kernel
theorem d_M_fill_60 : decode b_M_fill 60 = .ok (.iadd, 1) := by decide +kernel
theorem d_M_fill_61 : decode b_M_fill 61 = .ok (.iconst 0, 1) := by decide +kernel
theorem d_M_fill_62 : decode b_M_fill 62 = .ok (.iastore, 1) := by decide +kernel
theorem d_M_fill_63 : decode b_M_fill 63 = .ok (.iinc 6 1, 3) := by decide +kernel
theorem d_M_fill_66 : decode b_M_fill 66 = .ok (.goto (-49), 3) := by decide +kernel
theorem d_M_fill_69 : decode b_M_fill 69 = .ok (.iload 5, 2) := by decide +kernel
theorem d_M_fill_71 : decode b_M_fill 71 = .ok (.iconst 1, 1) := by decide +kernel
theorem d_M_fill_72 : decode b_M_fill 72 = .ok (.isub, 1) := by decide +kernel
theorem d_M_fill_73 : decode b_M_fill 73 = .ok (.istore 6, 2) := by decide +kernel
theorem d_M_fill_75 : decode b_M_fill 75 = .ok (.iload 6, 2) := by decide +kernel
theorem d_M_fill_77 : decode b_M_fill 77 = .ok (.iload_n 2, 1) := by decide +kernel
theorem d_M_fill_78 : decode b_M_fill 78 = .ok (.if_icmp .lt 265, 3) := by decide +kernel
theorem d_M_fill_81 : decode b_M_fill 81 = .ok (.iconst 0, 1) := by decide +kernel
theorem d_M_fill_82 : decode b_M_fill 82 = .ok (.istore 7, 2) := by decide +kernel
theorem d_M_fill_84 : decode b_M_fill 84 = .ok (.iload 7, 2) := by decide +kernel
theorem d_M_fill_86 : decode b_M_fill 86 = .ok (.iconst 4, 1) := by decide +kernel
theorem d_M_fill_87 : decode b_M_fill 87 = .ok (.if_icmp .ge 40, 3) := by decide +kernel
theorem d_M_fill_90 : decode b_M_fill 90 = .ok (.aload_n 0, 1) := by decide +kernel
theorem d_M_fill_91 : decode b_M_fill 91 = .ok (.getfield 38, 3) := by decide +kernel
theorem d_M_fill_94 : decode b_M_fill 94 = .ok (.sipush 600, 3) := by decide +kernel
theorem d_M_fill_97 : decode b_M_fill 97 = .ok (.iload 7, 2) := by decide +kernel
theorem d_M_fill_99 : decode b_M_fill 99 = .ok (.imul, 1) := by decide +kernel
theorem d_M_fill_100 : decode b_M_fill 100 = .ok (.iload 6, 2) := by decide +kernel
theorem d_M_fill_102 : decode b_M_fill 102 = .ok (.iadd, 1) := by decide +kernel
theorem d_M_fill_103 : decode b_M_fill 103 = .ok (.ldc 156, 2) := by decide +kernel
theorem d_M_fill_105 : decode b_M_fill 105 = .ok (.iastore, 1) := by decide +kernel
theorem d_M_fill_106 : decode b_M_fill 106 = .ok (.aload_n 0, 1) := by decide +kernel
theorem d_M_fill_107 : decode b_M_fill 107 = .ok (.getfield 41, 3) := by decide +kernel
theorem d_M_fill_110 : decode b_M_fill 110 = .ok (.sipush 600, 3) := by decide +kernel
theorem d_M_fill_113 : decode b_M_fill 113 = .ok (.iload 7, 2) := by decide +kernel
theorem d_M_fill_115 : decode b_M_fill 115 = .ok (.imul, 1) := by decide +kernel
theorem d_M_fill_116 : decode b_M_fill 116 = .ok (.iload 6, 2) := by decide +kernel
theorem d_M_fill_118 : decode b_M_fill 118 = .ok (.iadd, 1) := by decide +kernel
theorem d_M_fill_119 : decode b_M_fill 119 = .ok (.iconst 0, 1) := by decide +kernel
theorem d_M_fill_120 : decode b_M_fill 120 = .ok (.iastore, 1) := by decide +kernel
theorem d_M_fill_121 : decode b_M_fill 121 = .ok (.iinc 7 1, 3) := by decide +kernel
theorem d_M_fill_124 : decode b_M_fill 124 = .ok (.goto (-40), 3) := by decide +kernel
theorem d_M_fill_127 : decode b_M_fill 127 = .ok (.iconst 1, 1) := by decide +kernel
theorem d_M_fill_128 : decode b_M_fill 128 = .ok (.istore 7, 2) := by decide +kernel
theorem d_M_fill_130 : decode b_M_fill 130 = .ok (.iload 7, 2) := by decide +kernel
theorem d_M_fill_132 : decode b_M_fill 132 = .ok (.bipush 24, 2) := by decide +kernel
theorem d_M_fill_134 : decode b_M_fill 134 = .ok (.if_icmp .gt 203, 3) := by decide +kernel
theorem d_M_fill_137 : decode b_M_fill 137 = .ok (.iload 6, 2) := by decide +kernel
theorem d_M_fill_139 : decode b_M_fill 139 = .ok (.iload 4, 2) := by decide +kernel
theorem d_M_fill_141 : decode b_M_fill 141 = .ok (.if_icmp .ge 196, 3) := by decide +kernel
theorem d_M_fill_144 : decode b_M_fill 144 = .ok (.iload 6, 2) := by decide +kernel
theorem d_M_fill_146 : decode b_M_fill 146 = .ok (.iload 7, 2) := by decide +kernel
theorem d_M_fill_148 : decode b_M_fill 148 = .ok (.iadd, 1) := by decide +kernel
theorem d_M_fill_149 : decode b_M_fill 149 = .ok (.istore 8, 2) := by decide +kernel
theorem d_M_fill_151 : decode b_M_fill 151 = .ok (.iload 8, 2) := by decide +kernel
theorem d_M_fill_153 : decode b_M_fill 153 = .ok (.iload 4, 2) := by decide +kernel
theorem d_M_fill_155 : decode b_M_fill 155 = .ok (.if_icmp .lt 10, 3) := by decide +kernel
theorem d_M_fill_158 : decode b_M_fill 158 = .ok (.iload 8, 2) := by decide +kernel
theorem d_M_fill_160 : decode b_M_fill 160 = .ok (.iload 5, 2) := by decide +kernel
theorem d_M_fill_162 : decode b_M_fill 162 = .ok (.if_icmp .ne 7, 3) := by decide +kernel
theorem d_M_fill_165 : decode b_M_fill 165 = .ok (.iconst 1, 1) := by decide +kernel
theorem d_M_fill_166 : decode b_M_fill 166 = .ok (.goto 4, 3) := by decide +kernel
theorem d_M_fill_169 : decode b_M_fill 169 = .ok (.iconst 0, 1) := by decide +kernel
theorem d_M_fill_170 : decode b_M_fill 170 = .ok (.istore 9, 2) := by decide +kernel
theorem d_M_fill_172 : decode b_M_fill 172 = .ok (.iload 9, 2) := by decide +kernel
theorem d_M_fill_174 : decode b_M_fill 174 = .ok (.ifCond .eq 16, 3) := by decide +kernel
theorem d_M_fill_177 : decode b_M_fill 177 = .ok (.aload_n 0, 1) := by decide +kernel
theorem d_M_fill_178 : decode b_M_fill 178 = .ok (.iload_n 1, 1) := by decide +kernel
theorem d_M_fill_179 : decode b_M_fill 179 = .ok (.iload 6, 2) := by decide +kernel
theorem d_M_fill_181 : decode b_M_fill 181 = .ok (.iload 7, 2) := by decide +kernel
theorem d_M_fill_183 : decode b_M_fill 183 = .ok (.iload_n 3, 1) := by decide +kernel
theorem d_M_fill_184 : decode b_M_fill 184 = .ok (.invokevirtual 152, 3) := by decide +kernel
theorem d_M_fill_187 : decode b_M_fill 187 = .ok (.goto 4, 3) := by decide +kernel
theorem d_M_fill_190 : decode b_M_fill 190 = .ok (.iconst (-1), 1) := by decide +kernel
theorem d_M_fill_191 : decode b_M_fill 191 = .ok (.istore 10, 2) := by decide +kernel
theorem d_M_fill_193 : decode b_M_fill 193 = .ok (.iconst 0, 1) := by decide +kernel
theorem d_M_fill_194 : decode b_M_fill 194 = .ok (.istore 11, 2) := by decide +kernel
theorem d_M_fill_196 : decode b_M_fill 196 = .ok (.iload 11, 2) := by decide +kernel
theorem d_M_fill_198 : decode b_M_fill 198 = .ok (.iconst 4, 1) := by decide +kernel
theorem d_M_fill_199 : decode b_M_fill 199 = .ok (.if_icmp .ge 132, 3) := by decide +kernel
theorem d_M_fill_202 : decode b_M_fill 202 = .ok (.iload 10, 2) := by decide +kernel
theorem d_M_fill_204 : decode b_M_fill 204 = .ok (.iconst (-1), 1) := by decide +kernel
theorem d_M_fill_205 : decode b_M_fill 205 = .ok (.if_icmp .eq 126, 3) := by decide +kernel
theorem d_M_fill_208 : decode b_M_fill 208 = .ok (.sipush 600, 3) := by decide +kernel
theorem d_M_fill_211 : decode b_M_fill 211 = .ok (.iload 11, 2) := by decide +kernel
theorem d_M_fill_213 : decode b_M_fill 213 = .ok (.ifCond .ne 7, 3) := by decide +kernel
theorem d_M_fill_216 : decode b_M_fill 216 = .ok (.iconst 0, 1) := by decide +kernel
theorem d_M_fill_217 : decode b_M_fill 217 = .ok (.goto 7, 3) := by decide +kernel
theorem d_M_fill_220 : decode b_M_fill 220 = .ok (.iload 11, 2) := by decide +kernel
theorem d_M_fill_222 : decode b_M_fill 222 = .ok (.iconst 1, 1) := by decide +kernel
theorem d_M_fill_223 : decode b_M_fill 223 = .ok (.isub, 1) := by decide +kernel
theorem d_M_fill_224 : decode b_M_fill 224 = .ok (.imul, 1) := by decide +kernel
theorem d_M_fill_225 : decode b_M_fill 225 = .ok (.iload 8, 2) := by decide +kernel
theorem d_M_fill_227 : decode b_M_fill 227 = .ok (.iadd, 1) := by decide +kernel
theorem d_M_fill_228 : decode b_M_fill 228 = .ok (.istore 12, 2) := by decide +kernel
theorem d_M_fill_230 : decode b_M_fill 230 = .ok (.sipush 600, 3) := by decide +kernel
theorem d_M_fill_233 : decode b_M_fill 233 = .ok (.iload 11, 2) := by decide +kernel
theorem d_M_fill_235 : decode b_M_fill 235 = .ok (.imul, 1) := by decide +kernel
theorem d_M_fill_236 : decode b_M_fill 236 = .ok (.iload 6, 2) := by decide +kernel
theorem d_M_fill_238 : decode b_M_fill 238 = .ok (.iadd, 1) := by decide +kernel
theorem d_M_fill_239 : decode b_M_fill 239 = .ok (.istore 13, 2) := by decide +kernel
theorem d_M_fill_241 : decode b_M_fill 241 = .ok (.aload_n 0, 1) := by decide +kernel
theorem d_M_fill_242 : decode b_M_fill 242 = .ok (.getfield 38, 3) := by decide +kernel
theorem d_M_fill_245 : decode b_M_fill 245 = .ok (.iload 12, 2) := by decide +kernel
theorem d_M_fill_247 : decode b_M_fill 247 = .ok (.iaload, 1) := by decide +kernel
theorem d_M_fill_248 : decode b_M_fill 248 = .ok (.ldc 156, 2) := by decide +kernel
theorem d_M_fill_250 : decode b_M_fill 250 = .ok (.if_icmp .ge 75, 3) := by decide +kernel
theorem d_M_fill_253 : decode b_M_fill 253 = .ok (.aload_n 0, 1) := by decide +kernel
theorem d_M_fill_254 : decode b_M_fill 254 = .ok (.getfield 38, 3) := by decide +kernel
theorem d_M_fill_257 : decode b_M_fill 257 = .ok (.iload 12, 2) := by decide +kernel
theorem d_M_fill_259 : decode b_M_fill 259 = .ok (.iaload, 1) := by decide +kernel
theorem d_M_fill_260 : decode b_M_fill 260 = .ok (.iconst 1, 1) := by decide +kernel
theorem d_M_fill_261 : decode b_M_fill 261 = .ok (.iadd, 1) := by decide +kernel
theorem d_M_fill_262 : decode b_M_fill 262 = .ok (.aload_n 0, 1) := by decide +kernel
theorem d_M_fill_263 : decode b_M_fill 263 = .ok (.getfield 41, 3) := by decide +kernel
theorem d_M_fill_266 : decode b_M_fill 266 = .ok (.iload 12, 2) := by decide +kernel
theorem d_M_fill_268 : decode b_M_fill 268 = .ok (.iaload, 1) := by decide +kernel
theorem d_M_fill_269 : decode b_M_fill 269 = .ok (.iload 10, 2) := by decide +kernel
theorem d_M_fill_271 : decode b_M_fill 271 = .ok (.iadd, 1) := by decide +kernel
theorem d_M_fill_272 : decode b_M_fill 272 = .ok (.aload_n 0, 1) := by decide +kernel
theorem d_M_fill_273 : decode b_M_fill 273 = .ok (.getfield 38, 3) := by decide +kernel
theorem d_M_fill_276 : decode b_M_fill 276 = .ok (.iload 13, 2) := by decide +kernel
theorem d_M_fill_278 : decode b_M_fill 278 = .ok (.iaload, 1) := by decide +kernel
theorem d_M_fill_279 : decode b_M_fill 279 = .ok (.aload_n 0, 1) := by decide +kernel
theorem d_M_fill_280 : decode b_M_fill 280 = .ok (.getfield 41, 3) := by decide +kernel
theorem d_M_fill_283 : decode b_M_fill 283 = .ok (.iload 13, 2) := by decide +kernel
theorem d_M_fill_285 : decode b_M_fill 285 = .ok (.iaload, 1) := by decide +kernel
theorem d_M_fill_286 : decode b_M_fill 286 = .ok (.invokestatic 157, 3) := by decide +kernel
theorem d_M_fill_289 : decode b_M_fill 289 = .ok (.ifCond .eq 36, 3) := by decide +kernel
theorem d_M_fill_292 : decode b_M_fill 292 = .ok (.aload_n 0, 1) := by decide +kernel
theorem d_M_fill_293 : decode b_M_fill 293 = .ok (.getfield 38, 3) := by decide +kernel
theorem d_M_fill_296 : decode b_M_fill 296 = .ok (.iload 13, 2) := by decide +kernel
theorem d_M_fill_298 : decode b_M_fill 298 = .ok (.aload_n 0, 1) := by decide +kernel
theorem d_M_fill_299 : decode b_M_fill 299 = .ok (.getfield 38, 3) := by decide +kernel
theorem d_M_fill_302 : decode b_M_fill 302 = .ok (.iload 12, 2) := by decide +kernel
theorem d_M_fill_304 : decode b_M_fill 304 = .ok (.iaload, 1) := by decide +kernel
theorem d_M_fill_305 : decode b_M_fill 305 = .ok (.iconst 1, 1) := by decide +kernel
theorem d_M_fill_306 : decode b_M_fill 306 = .ok (.iadd, 1) := by decide +kernel
theorem d_M_fill_307 : decode b_M_fill 307 = .ok (.iastore, 1) := by decide +kernel
theorem d_M_fill_308 : decode b_M_fill 308 = .ok (.aload_n 0, 1) := by decide +kernel
theorem d_M_fill_309 : decode b_M_fill 309 = .ok (.getfield 41, 3) := by decide +kernel
theorem d_M_fill_312 : decode b_M_fill 312 = .ok (.iload 13, 2) := by decide +kernel
theorem d_M_fill_314 : decode b_M_fill 314 = .ok (.aload_n 0, 1) := by decide +kernel
theorem d_M_fill_315 : decode b_M_fill 315 = .ok (.getfield 41, 3) := by decide +kernel
theorem d_M_fill_318 : decode b_M_fill 318 = .ok (.iload 12, 2) := by decide +kernel
theorem d_M_fill_320 : decode b_M_fill 320 = .ok (.iaload, 1) := by decide +kernel
theorem d_M_fill_321 : decode b_M_fill 321 = .ok (.iload 10, 2) := by decide +kernel
theorem d_M_fill_323 : decode b_M_fill 323 = .ok (.iadd, 1) := by decide +kernel
theorem d_M_fill_324 : decode b_M_fill 324 = .ok (.iastore, 1) := by decide +kernel
theorem d_M_fill_325 : decode b_M_fill 325 = .ok (.iinc 11 1, 3) := by decide +kernel
theorem d_M_fill_328 : decode b_M_fill 328 = .ok (.goto (-132), 3) := by decide +kernel
theorem d_M_fill_331 : decode b_M_fill 331 = .ok (.iinc 7 1, 3) := by decide +kernel
theorem d_M_fill_334 : decode b_M_fill 334 = .ok (.goto (-204), 3) := by decide +kernel
theorem d_M_fill_337 : decode b_M_fill 337 = .ok (.iinc 6 (-1), 3) := by decide +kernel
theorem d_M_fill_340 : decode b_M_fill 340 = .ok (.goto (-265), 3) := by decide +kernel
theorem d_M_fill_343 : decode b_M_fill 343 = .ok (.return_, 1) := by decide +kernel
theorem d_M_follows_0 : decode b_M_follows 0 = .ok (.iload_n 2, 1) := by decide +kernel
theorem d_M_follows_1 : decode b_M_follows 1 = .ok (.iload_n 3, 1) := by decide +kernel
theorem d_M_follows_2 : decode b_M_follows 2 = .ok (.iadd, 1) := by decide +kernel
theorem d_M_follows_3 : decode b_M_follows 3 = .ok (.istore 8, 2) := by decide +kernel
theorem d_M_follows_5 : decode b_M_follows 5 = .ok (.iload 8, 2) := by decide +kernel
theorem d_M_follows_7 : decode b_M_follows 7 = .ok (.aload_n 0, 1) := by decide +kernel
theorem d_M_follows_8 : decode b_M_follows 8 = .ok (.getfield 16, 3) := by decide +kernel
theorem d_M_follows_11 : decode b_M_follows 11 = .ok (.iload_n 1, 1) := by decide +kernel
theorem d_M_follows_12 : decode b_M_follows 12 = .ok (.iaload, 1) := by decide +kernel
theorem d_M_follows_13 : decode b_M_follows 13 = .ok (.if_icmp .lt 12, 3) := by decide +kernel
theorem d_M_follows_16 : decode b_M_follows 16 = .ok (.iload 8, 2) := by decide +kernel
theorem d_M_follows_18 : decode b_M_follows 18 = .ok (.iload 7, 2) := by decide +kernel
theorem d_M_follows_20 : decode b_M_follows 20 = .ok (.if_icmp .eq 5, 3) := by decide +kernel
theorem d_M_follows_23 : decode b_M_follows 23 = .ok (.iconst 0, 1) := by decide +kernel
theorem d_M_follows_24 : decode b_M_follows 24 = .ok (.ireturn, 1) := by decide +kernel
theorem d_M_follows_25 : decode b_M_follows 25 = .ok (.aload_n 0, 1) := by decide +kernel
theorem d_M_follows_26 : decode b_M_follows 26 = .ok (.iload_n 1, 1) := by decide +kernel
theorem d_M_follows_27 : decode b_M_follows 27 = .ok (.iload_n 2, 1) := by decide +kernel
theorem d_M_follows_28 : decode b_M_follows 28 = .ok (.iload_n 3, 1) := by decide +kernel
theorem d_M_follows_29 : decode b_M_follows 29 = .ok (.iload 6, 2) := by decide +kernel
theorem d_M_follows_31 : decode b_M_follows 31 = .ok (.invokevirtual 152, 3) := by decide +kernel
theorem d_M_follows_34 : decode b_M_follows 34 = .ok (.istore 9, 2) := by decide +kernel
theorem d_M_follows_36 : decode b_M_follows 36 = .ok (.sipush 600, 3) := by decide +kernel
theorem d_M_follows_39 : decode b_M_follows 39 = .ok (.iload 5, 2) := by decide +kernel
theorem d_M_follows_41 : decode b_M_follows 41 = .ok (.imul, 1) := by decide +kernel
theorem d_M_follows_42 : decode b_M_follows 42 = .ok (.iload 8, 2) := by decide +kernel
theorem d_M_follows_44 : decode b_M_follows 44 = .ok (.iadd, 1) := by decide +kernel
theorem d_M_follows_45 : decode b_M_follows 45 = .ok (.istore 10, 2) := by decide +kernel
theorem d_M_follows_47 : decode b_M_follows 47 = .ok (.sipush 600, 3) := by decide +kernel
theorem d_M_follows_50 : decode b_M_follows 50 = .ok (.iload 4, 2) := by decide +kernel
theorem d_M_follows_52 : decode b_M_follows 52 = .ok (.imul, 1) := by decide +kernel
theorem d_M_follows_53 : decode b_M_follows 53 = .ok (.iload_n 2, 1) := by decide +kernel
theorem d_M_follows_54 : decode b_M_follows 54 = .ok (.iadd, 1) := by decide +kernel
theorem d_M_follows_55 : decode b_M_follows 55 = .ok (.istore 11, 2) := by decide +kernel
theorem d_M_follows_57 : decode b_M_follows 57 = .ok (.iload 9, 2) := by decide +kernel
theorem d_M_follows_59 : decode b_M_follows 59 = .ok (.iconst (-1), 1) := by decide +kernel
theorem d_M_follows_60 : decode b_M_follows 60 = .ok (.if_icmp .eq 46, 3) := by decide +kernel
theorem d_M_follows_63 : decode b_M_follows 63 = .ok (.aload_n 0, 1) := by decide +kernel
theorem d_M_follows_64 : decode b_M_follows 64 = .ok (.getfield 38, 3) := by decide +kernel
theorem d_M_follows_67 : decode b_M_follows 67 = .ok (.iload 10, 2) := by decide +kernel
theorem d_M_follows_69 : decode b_M_follows 69 = .ok (.iaload, 1) := by decide +kernel
theorem d_M_follows_70 : decode b_M_follows 70 = .ok (.iconst 1, 1) := by decide +kernel
theorem d_M_follows_71 : decode b_M_follows 71 = .ok (.iadd, 1) := by decide +kernel
theorem d_M_follows_72 : decode b_M_follows 72 = .ok (.aload_n 0, 1) := by decide +kernel
theorem d_M_follows_73 : decode b_M_follows 73 = .ok (.getfield 38, 3) := by decide +kernel
theorem d_M_follows_76 : decode b_M_follows 76 = .ok (.iload 11, 2) := by decide +kernel
theorem d_M_follows_78 : decode b_M_follows 78 = .ok (.iaload, 1) := by decide +kernel
theorem d_M_follows_79 : decode b_M_follows 79 = .ok (.if_icmp .ne 27, 3) := by decide +kernel
theorem d_M_follows_82 : decode b_M_follows 82 = .ok (.aload_n 0, 1) := by decide +kernel
theorem d_M_follows_83 : decode b_M_follows 83 = .ok (.getfield 41, 3) := by decide +kernel
theorem d_M_follows_86 : decode b_M_follows 86 = .ok (.iload 10, 2) := by decide +kernel
theorem d_M_follows_88 : decode b_M_follows 88 = .ok (.iaload, 1) := by decide +kernel
theorem d_M_follows_89 : decode b_M_follows 89 = .ok (.iload 9, 2) := by decide +kernel
theorem d_M_follows_91 : decode b_M_follows 91 = .ok (.iadd, 1) := by decide +kernel
theorem d_M_follows_92 : decode b_M_follows 92 = .ok (.aload_n 0, 1) := by decide +kernel
theorem d_M_follows_93 : decode b_M_follows 93 = .ok (.getfield 41, 3) := by decide +kernel
theorem d_M_follows_96 : decode b_M_follows 96 = .ok (.iload 11, 2) := by decide +kernel
theorem d_M_follows_98 : decode b_M_follows 98 = .ok (.iaload, 1) := by decide +kernel
theorem d_M_follows_99 : decode b_M_follows 99 = .ok (.if_icmp .ne 7, 3) := by decide +kernel
theorem d_M_follows_102 : decode b_M_follows 102 = .ok (.iconst 1, 1) := by decide +kernel
theorem d_M_follows_103 : decode b_M_follows 103 = .ok (.goto 4, 3) := by decide +kernel
theorem d_M_follows_106 : decode b_M_follows 106 = .ok (.iconst 0, 1) := by decide +kernel
theorem d_M_follows_107 : decode b_M_follows 107 = .ok (.ireturn, 1) := by decide +kernel
theorem d_M_polygon_0 : decode b_M_polygon 0 = .ok (.aload_n 0, 1) := by decide +kernel
theorem d_M_polygon_1 : decode b_M_polygon 1 = .ok (.aload_n 0, 1) := by decide +kernel
theorem d_M_polygon_2 : decode b_M_polygon 2 = .ok (.getfield 79, 3) := by decide +kernel
theorem d_M_polygon_5 : decode b_M_polygon 5 = .ok (.ifCond .ne 7, 3) := by decide +kernel
theorem d_M_polygon_8 : decode b_M_polygon 8 = .ok (.iconst 1, 1) := by decide +kernel
theorem d_M_polygon_9 : decode b_M_polygon 9 = .ok (.goto 36, 3) := by decide +kernel
theorem d_M_polygon_12 : decode b_M_polygon 12 = .ok (.iload_n 1, 1) := by decide +kernel
theorem d_M_polygon_13 : decode b_M_polygon 13 = .ok (.iconst 0, 1) := by decide +kernel
theorem d_M_polygon_14 : decode b_M_polygon 14 = .ok (.aload_n 0, 1) := by decide +kernel
theorem d_M_polygon_15 : decode b_M_polygon 15 = .ok (.getfield 83, 3) := by decide +kernel
theorem d_M_polygon_18 : decode b_M_polygon 18 = .ok (.iconst 1, 1) := by decide +kernel
theorem d_M_polygon_19 : decode b_M_polygon 19 = .ok (.isub, 1) := by decide +kernel
theorem d_M_polygon_20 : decode b_M_polygon 20 = .ok (.invokestatic 75, 3) := by decide +kernel
theorem d_M_polygon_23 : decode b_M_polygon 23 = .ok (.ifCond .ne 7, 3) := by decide +kernel
theorem d_M_polygon_26 : decode b_M_polygon 26 = .ok (.iconst 2, 1) := by decide +kernel
theorem d_M_polygon_27 : decode b_M_polygon 27 = .ok (.goto 18, 3) := by decide +kernel
theorem d_M_polygon_30 : decode b_M_polygon 30 = .ok (.iload_n 2, 1) := by decide +kernel
theorem d_M_polygon_31 : decode b_M_polygon 31 = .ok (.iconst 1, 1) := by decide +kernel
theorem d_M_polygon_32 : decode b_M_polygon 32 = .ok (.bipush 8, 2) := by decide +kernel
theorem d_M_polygon_34 : decode b_M_polygon 34 = .ok (.invokestatic 75, 3) := by decide +kernel
theorem d_M_polygon_37 : decode b_M_polygon 37 = .ok (.ifCond .ne 7, 3) := by decide +kernel
theorem d_M_polygon_40 : decode b_M_polygon 40 = .ok (.iconst 3, 1) := by decide +kernel
theorem d_M_polygon_41 : decode b_M_polygon 41 = .ok (.goto 4, 3) := by decide +kernel
theorem d_M_polygon_44 : decode b_M_polygon 44 = .ok (.iconst 0, 1) := by decide +kernel
theorem d_M_polygon_45 : decode b_M_polygon 45 = .ok (.invokevirtual 96, 3) := by decide +kernel
theorem d_M_polygon_48 : decode b_M_polygon 48 = .ok (.ifCond .eq 5, 3) := by decide +kernel
theorem d_M_polygon_51 : decode b_M_polygon 51 = .ok (.iconst 0, 1) := by decide +kernel
theorem d_M_polygon_52 : decode b_M_polygon 52 = .ok (.ireturn, 1) := by decide +kernel
theorem d_M_polygon_53 : decode b_M_polygon 53 = .ok (.iconst (-1), 1) := by decide +kernel
theorem d_M_polygon_54 : decode b_M_polygon 54 = .ok (.istore_n 3, 1) := by decide +kernel
theorem d_M_polygon_55 : decode b_M_polygon 55 = .ok (.ldc 156, 2) := by decide +kernel
theorem d_M_polygon_57 : decode b_M_polygon 57 = .ok (.istore 4, 2) := by decide +kernel
theorem d_M_polygon_59 : decode b_M_polygon 59 = .ok (.iconst 0, 1) := by decide +kernel
theorem d_M_polygon_60 : decode b_M_polygon 60 = .ok (.istore 5, 2) := by decide +kernel
theorem d_M_polygon_62 : decode b_M_polygon 62 = .ok (.iconst 0, 1) := by decide +kernel
theorem d_M_polygon_63 : decode b_M_polygon 63 = .ok (.istore 6, 2) := by decide +kernel
theorem d_M_polygon_65 : decode b_M_polygon 65 = .ok (.iload 6, 2) := by decide +kernel
theorem d_M_polygon_67 : decode b_M_polygon 67 = .ok (.bipush 24, 2) := by decide +kernel
theorem d_M_polygon_69 : decode b_M_polygon 69 = .ok (.if_icmp .ge 89, 3) := by decide +kernel
theorem d_M_polygon_72 : decode b_M_polygon 72 = .ok (.iload 6, 2) := by decide +kernel
theorem d_M_polygon_74 : decode b_M_polygon 74 = .ok (.aload_n 0, 1) := by decide +kernel
theorem d_M_polygon_75 : decode b_M_polygon 75 = .ok (.getfield 16, 3) := by decide +kernel
theorem d_M_polygon_78 : decode b_M_polygon 78 = .ok (.iload_n 1, 1) := by decide +kernel
theorem d_M_polygon_79 : decode b_M_polygon 79 = .ok (.iaload, 1) := by decide +kernel
theorem d_M_polygon_80 : decode b_M_polygon 80 = .ok (.if_icmp .ge 78, 3) := by decide +kernel
theorem d_M_polygon_83 : decode b_M_polygon 83 = .ok (.aload_n 0, 1) := by decide +kernel
theorem d_M_polygon_84 : decode b_M_polygon 84 = .ok (.iload_n 1, 1) := by decide +kernel
theorem d_M_polygon_85 : decode b_M_polygon 85 = .ok (.iload 6, 2) := by decide +kernel
theorem d_M_polygon_87 : decode b_M_polygon 87 = .ok (.iload_n 2, 1) := by decide +kernel
theorem d_M_polygon_88 : decode b_M_polygon 88 = .ok (.invokevirtual 160, 3) := by decide +kernel
theorem d_M_polygon_91 : decode b_M_polygon 91 = .ok (.aload_n 0, 1) := by decide +kernel
theorem d_M_polygon_92 : decode b_M_polygon 92 = .ok (.getfield 38, 3) := by decide +kernel
theorem d_M_polygon_95 : decode b_M_polygon 95 = .ok (.sipush 1800, 3) := by decide +kernel
theorem d_M_polygon_98 : decode b_M_polygon 98 = .ok (.iload 6, 2) := by decide +kernel
theorem d_M_polygon_100 : decode b_M_polygon 100 = .ok (.iadd, 1) := by decide +kernel
theorem d_M_polygon_101 : decode b_M_polygon 101 = .ok (.iaload, 1) := by decide +kernel
theorem d_M_polygon_102 : decode b_M_polygon 102 = .ok (.aload_n 0, 1) := by decide +kernel
theorem d_M_polygon_103 : decode b_M_polygon 103 = .ok (.getfield 41, 3) := by decide +kernel
theorem d_M_polygon_106 : decode b_M_polygon 106 = .ok (.sipush 1800, 3) := by decide +kernel
theorem d_M_polygon_109 : decode b_M_polygon 109 = .ok (.iload 6, 2) := by decide +kernel
theorem d_M_polygon_111 : decode b_M_polygon 111 = .ok (.iadd, 1) := by decide +kernel
theorem d_M_polygon_112 : decode b_M_polygon 112 = .ok (.iaload, 1) := by decide +kernel
theorem d_M_polygon_113 : decode b_M_polygon 113 = .ok (.iload 4, 2) := by decide +kernel
theorem d_M_polygon_115 : decode b_M_polygon 115 = .ok (.iload 5, 2) := by decide +kernel
theorem d_M_polygon_117 : decode b_M_polygon 117 = .ok (.invokestatic 157, 3) := by decide +kernel
theorem d_M_polygon_120 : decode b_M_polygon 120 = .ok (.ifCond .eq 32, 3) := by decide +kernel
theorem d_M_polygon_123 : decode b_M_polygon 123 = .ok (.iload 6, 2) := by decide +kernel
theorem d_M_polygon_125 : decode b_M_polygon 125 = .ok (.istore_n 3, 1) := by decide +kernel
theorem d_M_polygon_126 : decode b_M_polygon 126 = .ok (.aload_n 0, 1) := by decide +kernel
theorem d_M_polygon_127 : decode b_M_polygon 127 = .ok (.getfield 38, 3) := by decide +kernel
theorem d_M_polygon_130 : decode b_M_polygon 130 = .ok (.sipush 1800, 3) := by decide +kernel
theorem d_M_polygon_133 : decode b_M_polygon 133 = .ok (.iload 6, 2) := by decide +kernel
theorem d_M_polygon_135 : decode b_M_polygon 135 = .ok (.iadd, 1) := by decide +kernel
theorem d_M_polygon_136 : decode b_M_polygon 136 = .ok (.iaload, 1) := by decide +kernel
theorem d_M_polygon_137 : decode b_M_polygon 137 = .ok (.istore 4, 2) := by decide +kernel
theorem d_M_polygon_139 : decode b_M_polygon 139 = .ok (.aload_n 0, 1) := by decide +kernel
theorem d_M_polygon_140 : decode b_M_polygon 140 = .ok (.getfield 41, 3) := by decide +kernel
theorem d_M_polygon_143 : decode b_M_polygon 143 = .ok (.sipush 1800, 3) := by decide +kernel
theorem d_M_polygon_146 : decode b_M_polygon 146 = .ok (.iload 6, 2) := by decide +kernel
theorem d_M_polygon_148 : decode b_M_polygon 148 = .ok (.iadd, 1) := by decide +kernel
theorem d_M_polygon_149 : decode b_M_polygon 149 = .ok (.iaload, 1) := by decide +kernel
theorem d_M_polygon_150 : decode b_M_polygon 150 = .ok (.istore 5, 2) := by decide +kernel
theorem d_M_polygon_152 : decode b_M_polygon 152 = .ok (.iinc 6 1, 3) := by decide +kernel
theorem d_M_polygon_155 : decode b_M_polygon 155 = .ok (.goto (-90), 3) := by decide +kernel
theorem d_M_polygon_158 : decode b_M_polygon 158 = .ok (.aload_n 0, 1) := by decide +kernel
theorem d_M_polygon_159 : decode b_M_polygon 159 = .ok (.iload_n 1, 1) := by decide +kernel
theorem d_M_polygon_160 : decode b_M_polygon 160 = .ok (.iload_n 3, 1) := by decide +kernel
theorem d_M_polygon_161 : decode b_M_polygon 161 = .ok (.iload_n 2, 1) := by decide +kernel
theorem d_M_polygon_162 : decode b_M_polygon 162 = .ok (.invokevirtual 160, 3) := by decide +kernel
theorem d_M_polygon_165 : decode b_M_polygon 165 = .ok (.aload_n 0, 1) := by decide +kernel
theorem d_M_polygon_166 : decode b_M_polygon 166 = .ok (.iconst 0, 1) := by decide +kernel
theorem d_M_polygon_167 : decode b_M_polygon 167 = .ok (.putfield 164, 3) := by decide +kernel
theorem d_M_polygon_170 : decode b_M_polygon 170 = .ok (.iload_n 3, 1) := by decide +kernel
theorem d_M_polygon_171 : decode b_M_polygon 171 = .ok (.aload_n 0, 1) := by decide +kernel
theorem d_M_polygon_172 : decode b_M_polygon 172 = .ok (.getfield 16, 3) := by decide +kernel
theorem d_M_polygon_175 : decode b_M_polygon 175 = .ok (.iload_n 1, 1) := by decide +kernel
theorem d_M_polygon_176 : decode b_M_polygon 176 = .ok (.iaload, 1) := by decide +kernel
theorem d_M_polygon_177 : decode b_M_polygon 177 = .ok (.iadd, 1) := by decide +kernel
theorem d_M_polygon_178 : decode b_M_polygon 178 = .ok (.istore 6, 2) := by decide +kernel
theorem d_M_polygon_180 : decode b_M_polygon 180 = .ok (.iload_n 3, 1) := by decide +kernel
theorem d_M_polygon_181 : decode b_M_polygon 181 = .ok (.istore 7, 2) := by decide +kernel
theorem d_M_polygon_183 : decode b_M_polygon 183 = .ok (.iconst 3, 1) := by decide +kernel
theorem d_M_polygon_184 : decode b_M_polygon 184 = .ok (.istore 8, 2) := by decide +kernel
theorem d_M_polygon_186 : decode b_M_polygon 186 = .ok (.iload 7, 2) := by decide +kernel
theorem d_M_polygon_188 : decode b_M_polygon 188 = .ok (.iload 6, 2) := by decide +kernel
theorem d_M_polygon_190 : decode b_M_polygon 190 = .ok (.if_icmp .eq 81, 3) := by decide +kernel
theorem d_M_polygon_193 : decode b_M_polygon 193 = .ok (.aload_n 0, 1) := by decide +kernel
theorem d_M_polygon_194 : decode b_M_polygon 194 = .ok (.getfield 35, 3) := by decide +kernel
theorem d_M_polygon_197 : decode b_M_polygon 197 = .ok (.aload_n 0, 1) := by decide +kernel
theorem d_M_polygon_198 : decode b_M_polygon 198 = .ok (.getfield 164, 3) := by decide +kernel
theorem d_M_polygon_201 : decode b_M_polygon 201 = .ok (.iload 7, 2) := by decide +kernel
theorem d_M_polygon_203 : decode b_M_polygon 203 = .ok (.iastore, 1) := by decide +kernel
theorem d_M_polygon_204 : decode b_M_polygon 204 = .ok (.aload_n 0, 1) := by decide +kernel
theorem d_M_polygon_205 : decode b_M_polygon 205 = .ok (.dup, 1) := by decide +kernel
theorem d_M_polygon_206 : decode b_M_polygon 206 = .ok (.getfield 164, 3) := by decide +kernel
theorem d_M_polygon_209 : decode b_M_polygon 209 = .ok (.iconst 1, 1) := by decide +kernel
theorem d_M_polygon_210 : decode b_M_polygon 210 = .ok (.iadd, 1) := by decide +kernel
theorem d_M_polygon_211 : decode b_M_polygon 211 = .ok (.putfield 164, 3) := by decide +kernel
theorem d_M_polygon_214 : decode b_M_polygon 214 = .ok (.iconst 1, 1) := by decide +kernel
theorem d_M_polygon_215 : decode b_M_polygon 215 = .ok (.istore 9, 2) := by decide +kernel
theorem d_M_polygon_217 : decode b_M_polygon 217 = .ok (.iload 8, 2) := by decide +kernel
theorem d_M_polygon_219 : decode b_M_polygon 219 = .ok (.ifCond .ne 7, 3) := by decide +kernel
theorem d_M_polygon_222 : decode b_M_polygon 222 = .ok (.iconst 0, 1) := by decide +kernel
theorem d_M_polygon_223 : decode b_M_polygon 223 = .ok (.goto 7, 3) := by decide +kernel
theorem d_M_polygon_226 : decode b_M_polygon 226 = .ok (.iload 8, 2) := by decide +kernel
theorem d_M_polygon_228 : decode b_M_polygon 228 = .ok (.iconst 1, 1) := by decide +kernel
theorem d_M_polygon_229 : decode b_M_polygon 229 = .ok (.isub, 1) := by decide +kernel
theorem d_M_polygon_230 : decode b_M_polygon 230 = .ok (.istore 10, 2) := by decide +kernel
theorem d_M_polygon_232 : decode b_M_polygon 232 = .ok (.aload_n 0, 1) := by decide +kernel
theorem d_M_polygon_233 : decode b_M_polygon 233 = .ok (.iload_n 1, 1) := by decide +kernel
theorem d_M_polygon_234 : decode b_M_polygon 234 = .ok (.iload 7, 2) := by decide +kernel
theorem d_M_polygon_236 : decode b_M_polygon 236 = .ok (.iload 9, 2) := by decide +kernel
theorem d_M_polygon_238 : decode b_M_polygon 238 = .ok (.iload 8, 2) := by decide +kernel
theorem d_M_polygon_240 : decode b_M_polygon 240 = .ok (.iload 10, 2) := by decide +kernel
theorem d_M_polygon_242 : decode b_M_polygon 242 = .ok (.iload_n 2, 1) := by decide +kernel
theorem d_M_polygon_243 : decode b_M_polygon 243 = .ok (.iload 6, 2) := by decide +kernel
theorem d_M_polygon_245 : decode b_M_polygon 245 = .ok (.invokevirtual 167, 3) := by decide +kernel
theorem d_M_polygon_248 : decode b_M_polygon 248 = .ok (.ifCond .ne 9, 3) := by decide +kernel
theorem d_M_polygon_251 : decode b_M_polygon 251 = .ok (.iinc 9 1, 3) := by decide +kernel
theorem d_M_polygon_254 : decode b_M_polygon 254 = .ok (.goto (-22), 3) := by decide +kernel
theorem d_M_polygon_257 : decode b_M_polygon 257 = .ok (.iload 7, 2) := by decide +kernel
theorem d_M_polygon_259 : decode b_M_polygon 259 = .ok (.iload 9, 2) := by decide +kernel
theorem d_M_polygon_261 : decode b_M_polygon 261 = .ok (.iadd, 1) := by decide +kernel
theorem d_M_polygon_262 : decode b_M_polygon 262 = .ok (.istore 7, 2) := by decide +kernel
theorem d_M_polygon_264 : decode b_M_polygon 264 = .ok (.iload 10, 2) := by decide +kernel
theorem d_M_polygon_266 : decode b_M_polygon 266 = .ok (.istore 8, 2) := by decide +kernel
theorem d_M_polygon_268 : decode b_M_polygon 268 = .ok (.goto (-82), 3) := by decide +kernel
theorem d_M_polygon_271 : decode b_M_polygon 271 = .ok (.aload_n 0, 1) := by decide +kernel
theorem d_M_polygon_272 : decode b_M_polygon 272 = .ok (.iload_n 1, 1) := by decide +kernel
theorem d_M_polygon_273 : decode b_M_polygon 273 = .ok (.putfield 171, 3) := by decide +kernel
theorem d_M_polygon_276 : decode b_M_polygon 276 = .ok (.aload_n 0, 1) := by decide +kernel
theorem d_M_polygon_277 : decode b_M_polygon 277 = .ok (.iload 5, 2) := by decide +kernel
theorem d_M_polygon_279 : decode b_M_polygon 279 = .ok (.putfield 174, 3) := by decide +kernel
theorem d_M_polygon_282 : decode b_M_polygon 282 = .ok (.aload_n 0, 1) := by decide +kernel
theorem d_M_polygon_283 : decode b_M_polygon 283 = .ok (.iconst 1, 1) := by decide +kernel
theorem d_M_polygon_284 : decode b_M_polygon 284 = .ok (.putfield 86, 3) := by decide +kernel
theorem d_M_polygon_287 : decode b_M_polygon 287 = .ok (.aload_n 0, 1) := by decide +kernel
theorem d_M_polygon_288 : decode b_M_polygon 288 = .ok (.iconst 0, 1) := by decide +kernel
theorem d_M_polygon_289 : decode b_M_polygon 289 = .ok (.putfield 89, 3) := by decide +kernel
theorem d_M_polygon_292 : decode b_M_polygon 292 = .ok (.aload_n 0, 1) := by decide +kernel
theorem d_M_polygon_293 : decode b_M_polygon 293 = .ok (.getfield 164, 3) := by decide +kernel
theorem d_M_polygon_296 : decode b_M_polygon 296 = .ok (.ireturn, 1) := by decide +kernel
theorem d_M_cornerX_0 : decode b_M_cornerX 0 = .ok (.aload_n 0, 1) := by decide +kernel
theorem d_M_cornerX_1 : decode b_M_cornerX 1 = .ok (.aload_n 0, 1) := by decide +kernel
theorem d_M_cornerX_2 : decode b_M_cornerX 2 = .ok (.getfield 171, 3) := by decide +kernel
theorem d_M_cornerX_5 : decode b_M_cornerX 5 = .ok (.aload_n 0, 1) := by decide +kernel
theorem d_M_cornerX_6 : decode b_M_cornerX 6 = .ok (.getfield 35, 3) := by decide +kernel
theorem d_M_cornerX_9 : decode b_M_cornerX 9 = .ok (.iload_n 1, 1) := by decide +kernel
theorem d_M_cornerX_10 : decode b_M_cornerX 10 = .ok (.aload_n 0, 1) := by decide +kernel
theorem d_M_cornerX_11 : decode b_M_cornerX 11 = .ok (.getfield 164, 3) := by decide +kernel
theorem d_M_cornerX_14 : decode b_M_cornerX 14 = .ok (.irem, 1) := by decide +kernel
theorem d_M_cornerX_15 : decode b_M_cornerX 15 = .ok (.iaload, 1) := by decide +kernel
theorem d_M_cornerX_16 : decode b_M_cornerX 16 = .ok (.invokevirtual 136, 3) := by decide +kernel
theorem d_M_cornerX_19 : decode b_M_cornerX 19 = .ok (.ireturn, 1) := by decide +kernel
theorem d_M_cornerY_0 : decode b_M_cornerY 0 = .ok (.aload_n 0, 1) := by decide +kernel
theorem d_M_cornerY_1 : decode b_M_cornerY 1 = .ok (.aload_n 0, 1) := by decide +kernel
theorem d_M_cornerY_2 : decode b_M_cornerY 2 = .ok (.getfield 171, 3) := by decide +kernel
theorem d_M_cornerY_5 : decode b_M_cornerY 5 = .ok (.aload_n 0, 1) := by decide +kernel
theorem d_M_cornerY_6 : decode b_M_cornerY 6 = .ok (.getfield 35, 3) := by decide +kernel
theorem d_M_cornerY_9 : decode b_M_cornerY 9 = .ok (.iload_n 1, 1) := by decide +kernel
theorem d_M_cornerY_10 : decode b_M_cornerY 10 = .ok (.aload_n 0, 1) := by decide +kernel
theorem d_M_cornerY_11 : decode b_M_cornerY 11 = .ok (.getfield 164, 3) := by decide +kernel
theorem d_M_cornerY_14 : decode b_M_cornerY 14 = .ok (.irem, 1) := by decide +kernel
theorem d_M_cornerY_15 : decode b_M_cornerY 15 = .ok (.iaload, 1) := by decide +kernel
theorem d_M_cornerY_16 : decode b_M_cornerY 16 = .ok (.invokevirtual 132, 3) := by decide +kernel
theorem d_M_cornerY_19 : decode b_M_cornerY 19 = .ok (.ireturn, 1) := by decide +kernel
theorem d_M_crossAt_0 : decode b_M_crossAt 0 = .ok (.iload_n 1, 1) := by decide +kernel
theorem d_M_crossAt_1 : decode b_M_crossAt 1 = .ok (.aload_n 0, 1) := by decide +kernel
theorem d_M_crossAt_2 : decode b_M_crossAt 2 = .ok (.getfield 164, 3) := by decide +kernel
theorem d_M_crossAt_5 : decode b_M_crossAt 5 = .ok (.iadd, 1) := by decide +kernel
theorem d_M_crossAt_6 : decode b_M_crossAt 6 = .ok (.iconst 1, 1) := by decide +kernel
theorem d_M_crossAt_7 : decode b_M_crossAt 7 = .ok (.isub, 1) := by decide +kernel
theorem d_M_crossAt_8 : decode b_M_crossAt 8 = .ok (.istore_n 2, 1) := by decide +kernel
theorem d_M_crossAt_9 : decode b_M_crossAt 9 = .ok (.aload_n 0, 1) := by decide +kernel
theorem d_M_crossAt_10 : decode b_M_crossAt 10 = .ok (.iload_n 1, 1) := by decide +kernel
theorem d_M_crossAt_11 : decode b_M_crossAt 11 = .ok (.invokevirtual 177, 3) := by decide +kernel
theorem d_M_crossAt_14 : decode b_M_crossAt 14 = .ok (.aload_n 0, 1) := by decide +kernel
theorem d_M_crossAt_15 : decode b_M_crossAt 15 = .ok (.iload_n 2, 1) := by decide +kernel
theorem d_M_crossAt_16 : decode b_M_crossAt 16 = .ok (.invokevirtual 177, 3) := by decide +kernel
theorem d_M_crossAt_19 : decode b_M_crossAt 19 = .ok (.isub, 1) := by decide +kernel
theorem d_M_crossAt_20 : decode b_M_crossAt 20 = .ok (.istore_n 3, 1) := by decide +kernel
theorem d_M_crossAt_21 : decode b_M_crossAt 21 = .ok (.aload_n 0, 1) := by decide +kernel
theorem d_M_crossAt_22 : decode b_M_crossAt 22 = .ok (.iload_n 1, 1) := by decide +kernel
theorem d_M_crossAt_23 : decode b_M_crossAt 23 = .ok (.invokevirtual 180, 3) := by decide +kernel
theorem d_M_crossAt_26 : decode b_M_crossAt 26 = .ok (.aload_n 0, 1) := by decide +kernel
theorem d_M_crossAt_27 : decode b_M_crossAt 27 = .ok (.iload_n 2, 1) := by decide +kernel
theorem d_M_crossAt_28 : decode b_M_crossAt 28 = .ok (.invokevirtual 180, 3) := by decide +kernel
theorem d_M_crossAt_31 : decode b_M_crossAt 31 = .ok (.isub, 1) := by decide +kernel
theorem d_M_crossAt_32 : decode b_M_crossAt 32 = .ok (.istore 4, 2) := by decide +kernel
theorem d_M_crossAt_34 : decode b_M_crossAt 34 = .ok (.aload_n 0, 1) := by decide +kernel
theorem d_M_crossAt_35 : decode b_M_crossAt 35 = .ok (.iload_n 1, 1) := by decide +kernel
theorem d_M_crossAt_36 : decode b_M_crossAt 36 = .ok (.iconst 1, 1) := by decide +kernel
theorem d_M_crossAt_37 : decode b_M_crossAt 37 = .ok (.iadd, 1) := by decide +kernel
theorem d_M_crossAt_38 : decode b_M_crossAt 38 = .ok (.invokevirtual 177, 3) := by decide +kernel
theorem d_M_crossAt_41 : decode b_M_crossAt 41 = .ok (.aload_n 0, 1) := by decide +kernel
theorem d_M_crossAt_42 : decode b_M_crossAt 42 = .ok (.iload_n 1, 1) := by decide +kernel
theorem d_M_crossAt_43 : decode b_M_crossAt 43 = .ok (.invokevirtual 177, 3) := by decide +kernel
theorem d_M_crossAt_46 : decode b_M_crossAt 46 = .ok (.isub, 1) := by decide +kernel
theorem d_M_crossAt_47 : decode b_M_crossAt 47 = .ok (.istore 5, 2) := by decide +kernel
theorem d_M_crossAt_49 : decode b_M_crossAt 49 = .ok (.aload_n 0, 1) := by decide +kernel
theorem d_M_crossAt_50 : decode b_M_crossAt 50 = .ok (.iload_n 1, 1) := by decide +kernel
theorem d_M_crossAt_51 : decode b_M_crossAt 51 = .ok (.iconst 1, 1) := by decide +kernel
theorem d_M_crossAt_52 : decode b_M_crossAt 52 = .ok (.iadd, 1) := by decide +kernel
theorem d_M_crossAt_53 : decode b_M_crossAt 53 = .ok (.invokevirtual 180, 3) := by decide +kernel
theorem d_M_crossAt_56 : decode b_M_crossAt 56 = .ok (.aload_n 0, 1) := by decide +kernel
theorem d_M_crossAt_57 : decode b_M_crossAt 57 = .ok (.iload_n 1, 1) := by decide +kernel
theorem d_M_crossAt_58 : decode b_M_crossAt 58 = .ok (.invokevirtual 180, 3) := by decide +kernel
theorem d_M_crossAt_61 : decode b_M_crossAt 61 = .ok (.isub, 1) := by decide +kernel
theorem d_M_crossAt_62 : decode b_M_crossAt 62 = .ok (.istore 6, 2) := by decide +kernel
theorem d_M_crossAt_64 : decode b_M_crossAt 64 = .ok (.iload_n 3, 1) := by decide +kernel
theorem d_M_crossAt_65 : decode b_M_crossAt 65 = .ok (.iload 6, 2) := by decide +kernel
theorem d_M_crossAt_67 : decode b_M_crossAt 67 = .ok (.imul, 1) := by decide +kernel
theorem d_M_crossAt_68 : decode b_M_crossAt 68 = .ok (.iload 4, 2) := by decide +kernel
theorem d_M_crossAt_70 : decode b_M_crossAt 70 = .ok (.iload 5, 2) := by decide +kernel
theorem d_M_crossAt_72 : decode b_M_crossAt 72 = .ok (.imul, 1) := by decide +kernel
theorem d_M_crossAt_73 : decode b_M_crossAt 73 = .ok (.isub, 1) := by decide +kernel
theorem d_M_crossAt_74 : decode b_M_crossAt 74 = .ok (.ireturn, 1) := by decide +kernel
theorem d_M_angleAt_0 : decode b_M_angleAt 0 = .ok (.iload_n 1, 1) := by decide +kernel
theorem d_M_angleAt_1 : decode b_M_angleAt 1 = .ok (.aload_n 0, 1) := by decide +kernel
theorem d_M_angleAt_2 : decode b_M_angleAt 2 = .ok (.getfield 164, 3) := by decide +kernel
theorem d_M_angleAt_5 : decode b_M_angleAt 5 = .ok (.iadd, 1) := by decide +kernel
theorem d_M_angleAt_6 : decode b_M_angleAt 6 = .ok (.iconst 1, 1) := by decide +kernel
theorem d_M_angleAt_7 : decode b_M_angleAt 7 = .ok (.isub, 1) := by decide +kernel
theorem d_M_angleAt_8 : decode b_M_angleAt 8 = .ok (.istore_n 2, 1) := by decide +kernel
theorem d_M_angleAt_9 : decode b_M_angleAt 9 = .ok (.aload_n 0, 1) := by decide +kernel
theorem d_M_angleAt_10 : decode b_M_angleAt 10 = .ok (.iload_n 1, 1) := by decide +kernel
theorem d_M_angleAt_11 : decode b_M_angleAt 11 = .ok (.invokevirtual 177, 3) := by decide +kernel
theorem d_M_angleAt_14 : decode b_M_angleAt 14 = .ok (.aload_n 0, 1) := by decide +kernel
theorem d_M_angleAt_15 : decode b_M_angleAt 15 = .ok (.iload_n 2, 1) := by decide +kernel
theorem d_M_angleAt_16 : decode b_M_angleAt 16 = .ok (.invokevirtual 177, 3) := by decide +kernel
theorem d_M_angleAt_19 : decode b_M_angleAt 19 = .ok (.isub, 1) := by decide +kernel
theorem d_M_angleAt_20 : decode b_M_angleAt 20 = .ok (.aload_n 0, 1) := by decide +kernel
theorem d_M_angleAt_21 : decode b_M_angleAt 21 = .ok (.iload_n 1, 1) := by decide +kernel
theorem d_M_angleAt_22 : decode b_M_angleAt 22 = .ok (.iconst 1, 1) := by decide +kernel
theorem d_M_angleAt_23 : decode b_M_angleAt 23 = .ok (.iadd, 1) := by decide +kernel
theorem d_M_angleAt_24 : decode b_M_angleAt 24 = .ok (.invokevirtual 177, 3) := by decide +kernel
theorem d_M_angleAt_27 : decode b_M_angleAt 27 = .ok (.aload_n 0, 1) := by decide +kernel
theorem d_M_angleAt_28 : decode b_M_angleAt 28 = .ok (.iload_n 1, 1) := by decide +kernel
theorem d_M_angleAt_29 : decode b_M_angleAt 29 = .ok (.invokevirtual 177, 3) := by decide +kernel
theorem d_M_angleAt_32 : decode b_M_angleAt 32 = .ok (.isub, 1) := by decide +kernel
theorem d_M_angleAt_33 : decode b_M_angleAt 33 = .ok (.imul, 1) := by decide +kernel
theorem d_M_angleAt_34 : decode b_M_angleAt 34 = .ok (.aload_n 0, 1) := by decide +kernel
theorem d_M_angleAt_35 : decode b_M_angleAt 35 = .ok (.iload_n 1, 1) := by decide +kernel
theorem d_M_angleAt_36 : decode b_M_angleAt 36 = .ok (.invokevirtual 180, 3) := by decide +kernel
theorem d_M_angleAt_39 : decode b_M_angleAt 39 = .ok (.aload_n 0, 1) := by decide +kernel
theorem d_M_angleAt_40 : decode b_M_angleAt 40 = .ok (.iload_n 2, 1) := by decide +kernel
theorem d_M_angleAt_41 : decode b_M_angleAt 41 = .ok (.invokevirtual 180, 3) := by decide +kernel
theorem d_M_angleAt_44 : decode b_M_angleAt 44 = .ok (.isub, 1) := by decide +kernel
theorem d_M_angleAt_45 : decode b_M_angleAt 45 = .ok (.aload_n 0, 1) := by decide +kernel
theorem d_M_angleAt_46 : decode b_M_angleAt 46 = .ok (.iload_n 1, 1) := by decide +kernel
theorem d_M_angleAt_47 : decode b_M_angleAt 47 = .ok (.iconst 1, 1) := by decide +kernel
theorem d_M_angleAt_48 : decode b_M_angleAt 48 = .ok (.iadd, 1) := by decide +kernel
theorem d_M_angleAt_49 : decode b_M_angleAt 49 = .ok (.invokevirtual 180, 3) := by decide +kernel
theorem d_M_angleAt_52 : decode b_M_angleAt 52 = .ok (.aload_n 0, 1) := by decide +kernel
theorem d_M_angleAt_53 : decode b_M_angleAt 53 = .ok (.iload_n 1, 1) := by decide +kernel
theorem d_M_angleAt_54 : decode b_M_angleAt 54 = .ok (.invokevirtual 180, 3) := by decide +kernel
theorem d_M_angleAt_57 : decode b_M_angleAt 57 = .ok (.isub, 1) := by decide +kernel
theorem d_M_angleAt_58 : decode b_M_angleAt 58 = .ok (.imul, 1) := by decide +kernel
theorem d_M_angleAt_59 : decode b_M_angleAt 59 = .ok (.iadd, 1) := by decide +kernel
theorem d_M_angleAt_60 : decode b_M_angleAt 60 = .ok (.istore_n 3, 1) := by decide +kernel
theorem d_M_angleAt_61 : decode b_M_angleAt 61 = .ok (.iload_n 3, 1) := by decide +kernel
theorem d_M_angleAt_62 : decode b_M_angleAt 62 = .ok (.ifCond .gt 6, 3) := by decide +kernel
theorem d_M_angleAt_65 : decode b_M_angleAt 65 = .ok (.bipush 64, 2) := by decide +kernel
theorem d_M_angleAt_67 : decode b_M_angleAt 67 = .ok (.ireturn, 1) := by decide +kernel
theorem d_M_angleAt_68 : decode b_M_angleAt 68 = .ok (.bipush 16, 2) := by decide +kernel
theorem d_M_angleAt_70 : decode b_M_angleAt 70 = .ok (.aload_n 0, 1) := by decide +kernel
theorem d_M_angleAt_71 : decode b_M_angleAt 71 = .ok (.iload_n 1, 1) := by decide +kernel
theorem d_M_angleAt_72 : decode b_M_angleAt 72 = .ok (.invokevirtual 183, 3) := by decide +kernel
theorem d_M_angleAt_75 : decode b_M_angleAt 75 = .ok (.invokestatic 143, 3) := by decide +kernel
theorem d_M_angleAt_78 : decode b_M_angleAt 78 = .ok (.imul, 1) := by decide +kernel
theorem d_M_angleAt_79 : decode b_M_angleAt 79 = .ok (.iload_n 3, 1) := by decide +kernel
theorem d_M_angleAt_80 : decode b_M_angleAt 80 = .ok (.idiv, 1) := by decide +kernel
theorem d_M_angleAt_81 : decode b_M_angleAt 81 = .ok (.istore 4, 2) := by decide +kernel
theorem d_M_angleAt_83 : decode b_M_angleAt 83 = .ok (.iload 4, 2) := by decide +kernel
theorem d_M_angleAt_85 : decode b_M_angleAt 85 = .ok (.bipush 63, 2) := by decide +kernel
theorem d_M_angleAt_87 : decode b_M_angleAt 87 = .ok (.if_icmp .le 8, 3) := by decide +kernel
theorem d_M_angleAt_90 : decode b_M_angleAt 90 = .ok (.bipush 63, 2) := by decide +kernel
theorem d_M_angleAt_92 : decode b_M_angleAt 92 = .ok (.goto 5, 3) := by decide +kernel
theorem d_M_angleAt_95 : decode b_M_angleAt 95 = .ok (.iload 4, 2) := by decide +kernel
theorem d_M_angleAt_97 : decode b_M_angleAt 97 = .ok (.ireturn, 1) := by decide +kernel
theorem d_M_turnAt_0 : decode b_M_turnAt 0 = .ok (.aload_n 0, 1) := by decide +kernel
theorem d_M_turnAt_1 : decode b_M_turnAt 1 = .ok (.iload_n 1, 1) := by decide +kernel
theorem d_M_turnAt_2 : decode b_M_turnAt 2 = .ok (.invokevirtual 183, 3) := by decide +kernel
theorem d_M_turnAt_5 : decode b_M_turnAt 5 = .ok (.istore_n 2, 1) := by decide +kernel
theorem d_M_turnAt_6 : decode b_M_turnAt 6 = .ok (.iload_n 2, 1) := by decide +kernel
theorem d_M_turnAt_7 : decode b_M_turnAt 7 = .ok (.ifCond .le 7, 3) := by decide +kernel
theorem d_M_turnAt_10 : decode b_M_turnAt 10 = .ok (.iconst 1, 1) := by decide +kernel
theorem d_M_turnAt_11 : decode b_M_turnAt 11 = .ok (.goto 12, 3) := by decide +kernel
theorem d_M_turnAt_14 : decode b_M_turnAt 14 = .ok (.iload_n 2, 1) := by decide +kernel
theorem d_M_turnAt_15 : decode b_M_turnAt 15 = .ok (.ifCond .ge 7, 3) := by decide +kernel
theorem d_M_turnAt_18 : decode b_M_turnAt 18 = .ok (.iconst (-1), 1) := by decide +kernel
theorem d_M_turnAt_19 : decode b_M_turnAt 19 = .ok (.goto 4, 3) := by decide +kernel
theorem d_M_turnAt_22 : decode b_M_turnAt 22 = .ok (.iconst 0, 1) := by decide +kernel
theorem d_M_turnAt_23 : decode b_M_turnAt 23 = .ok (.ireturn, 1) := by decide +kernel
theorem d_M_corner_0 : decode b_M_corner 0 = .ok (.aload_n 0, 1) := by decide +kernel
theorem d_M_corner_1 : decode b_M_corner 1 = .ok (.aload_n 0, 1) := by decide +kernel
theorem d_M_corner_2 : decode b_M_corner 2 = .ok (.getfield 86, 3) := by decide +kernel
theorem d_M_corner_5 : decode b_M_corner 5 = .ok (.ifCond .ne 7, 3) := by decide +kernel
theorem d_M_corner_8 : decode b_M_corner 8 = .ok (.iconst 1, 1) := by decide +kernel
theorem d_M_corner_9 : decode b_M_corner 9 = .ok (.goto 22, 3) := by decide +kernel
theorem d_M_corner_12 : decode b_M_corner 12 = .ok (.iload_n 1, 1) := by decide +kernel
theorem d_M_corner_13 : decode b_M_corner 13 = .ok (.iconst 0, 1) := by decide +kernel
theorem d_M_corner_14 : decode b_M_corner 14 = .ok (.aload_n 0, 1) := by decide +kernel
theorem d_M_corner_15 : decode b_M_corner 15 = .ok (.getfield 164, 3) := by decide +kernel
theorem d_M_corner_18 : decode b_M_corner 18 = .ok (.iconst 1, 1) := by decide +kernel
theorem d_M_corner_19 : decode b_M_corner 19 = .ok (.isub, 1) := by decide +kernel
theorem d_M_corner_20 : decode b_M_corner 20 = .ok (.invokestatic 75, 3) := by decide +kernel
theorem d_M_corner_23 : decode b_M_corner 23 = .ok (.ifCond .ne 7, 3) := by decide +kernel
theorem d_M_corner_26 : decode b_M_corner 26 = .ok (.iconst 2, 1) := by decide +kernel
theorem d_M_corner_27 : decode b_M_corner 27 = .ok (.goto 4, 3) := by decide +kernel
theorem d_M_corner_30 : decode b_M_corner 30 = .ok (.iconst 0, 1) := by decide +kernel
theorem d_M_corner_31 : decode b_M_corner 31 = .ok (.invokevirtual 96, 3) := by decide +kernel
theorem d_M_corner_34 : decode b_M_corner 34 = .ok (.ifCond .eq 5, 3) := by decide +kernel
theorem d_M_corner_37 : decode b_M_corner 37 = .ok (.iconst 0, 1) := by decide +kernel
theorem d_M_corner_38 : decode b_M_corner 38 = .ok (.ireturn, 1) := by decide +kernel
theorem d_M_corner_39 : decode b_M_corner 39 = .ok (.iload_n 2, 1) := by decide +kernel
theorem d_M_corner_40 : decode b_M_corner 40 = .ok (.ifCond .ne 12, 3) := by decide +kernel
theorem d_M_corner_43 : decode b_M_corner 43 = .ok (.aload_n 0, 1) := by decide +kernel
theorem d_M_corner_44 : decode b_M_corner 44 = .ok (.getfield 35, 3) := by decide +kernel
theorem d_M_corner_47 : decode b_M_corner 47 = .ok (.iload_n 1, 1) := by decide +kernel
theorem d_M_corner_48 : decode b_M_corner 48 = .ok (.iaload, 1) := by decide +kernel
theorem d_M_corner_49 : decode b_M_corner 49 = .ok (.goto 56, 3) := by decide +kernel
theorem d_M_corner_52 : decode b_M_corner 52 = .ok (.iload_n 2, 1) := by decide +kernel
theorem d_M_corner_53 : decode b_M_corner 53 = .ok (.iconst 1, 1) := by decide +kernel
theorem d_M_corner_54 : decode b_M_corner 54 = .ok (.if_icmp .ne 11, 3) := by decide +kernel
theorem d_M_corner_57 : decode b_M_corner 57 = .ok (.aload_n 0, 1) := by decide +kernel
theorem d_M_corner_58 : decode b_M_corner 58 = .ok (.iload_n 1, 1) := by decide +kernel
theorem d_M_corner_59 : decode b_M_corner 59 = .ok (.invokevirtual 177, 3) := by decide +kernel
theorem d_M_corner_62 : decode b_M_corner 62 = .ok (.goto 43, 3) := by decide +kernel
theorem d_M_corner_65 : decode b_M_corner 65 = .ok (.iload_n 2, 1) := by decide +kernel
theorem d_M_corner_66 : decode b_M_corner 66 = .ok (.iconst 2, 1) := by decide +kernel
theorem d_M_corner_67 : decode b_M_corner 67 = .ok (.if_icmp .ne 11, 3) := by decide +kernel
theorem d_M_corner_70 : decode b_M_corner 70 = .ok (.aload_n 0, 1) := by decide +kernel
theorem d_M_corner_71 : decode b_M_corner 71 = .ok (.iload_n 1, 1) := by decide +kernel
theorem d_M_corner_72 : decode b_M_corner 72 = .ok (.invokevirtual 180, 3) := by decide +kernel
theorem d_M_corner_75 : decode b_M_corner 75 = .ok (.goto 30, 3) := by decide +kernel
theorem d_M_corner_78 : decode b_M_corner 78 = .ok (.iload_n 2, 1) := by decide +kernel
theorem d_M_corner_79 : decode b_M_corner 79 = .ok (.iconst 3, 1) := by decide +kernel
theorem d_M_corner_80 : decode b_M_corner 80 = .ok (.if_icmp .ne 11, 3) := by decide +kernel
theorem d_M_corner_83 : decode b_M_corner 83 = .ok (.aload_n 0, 1) := by decide +kernel
theorem d_M_corner_84 : decode b_M_corner 84 = .ok (.iload_n 1, 1) := by decide +kernel
theorem d_M_corner_85 : decode b_M_corner 85 = .ok (.invokevirtual 186, 3) := by decide +kernel
theorem d_M_corner_88 : decode b_M_corner 88 = .ok (.goto 17, 3) := by decide +kernel
theorem d_M_corner_91 : decode b_M_corner 91 = .ok (.iload_n 2, 1) := by decide +kernel
theorem d_M_corner_92 : decode b_M_corner 92 = .ok (.iconst 4, 1) := by decide +kernel
theorem d_M_corner_93 : decode b_M_corner 93 = .ok (.if_icmp .ne 11, 3) := by decide +kernel
theorem d_M_corner_96 : decode b_M_corner 96 = .ok (.aload_n 0, 1) := by decide +kernel
theorem d_M_corner_97 : decode b_M_corner 97 = .ok (.iload_n 1, 1) := by decide +kernel
theorem d_M_corner_98 : decode b_M_corner 98 = .ok (.invokevirtual 189, 3) := by decide +kernel
theorem d_M_corner_101 : decode b_M_corner 101 = .ok (.goto 4, 3) := by decide +kernel
theorem d_M_corner_104 : decode b_M_corner 104 = .ok (.iconst (-1), 1) := by decide +kernel
theorem d_M_corner_105 : decode b_M_corner 105 = .ok (.ireturn, 1) := by decide +kernel
theorem d_M_set_0 : decode b_M_set 0 = .ok (.iload_n 1, 1) := by decide +kernel
theorem d_M_set_1 : decode b_M_set 1 = .ok (.aload_n 0, 1) := by decide +kernel
theorem d_M_set_2 : decode b_M_set 2 = .ok (.getfield 164, 3) := by decide +kernel
theorem d_M_set_5 : decode b_M_set 5 = .ok (.iadd, 1) := by decide +kernel
theorem d_M_set_6 : decode b_M_set 6 = .ok (.iconst 1, 1) := by decide +kernel
theorem d_M_set_7 : decode b_M_set 7 = .ok (.isub, 1) := by decide +kernel
theorem d_M_set_8 : decode b_M_set 8 = .ok (.istore 4, 2) := by decide +kernel
theorem d_M_set_10 : decode b_M_set 10 = .ok (.iload_n 1, 1) := by decide +kernel
theorem d_M_set_11 : decode b_M_set 11 = .ok (.iload_n 2, 1) := by decide +kernel
theorem d_M_set_12 : decode b_M_set 12 = .ok (.iadd, 1) := by decide +kernel
theorem d_M_set_13 : decode b_M_set 13 = .ok (.iconst 1, 1) := by decide +kernel
theorem d_M_set_14 : decode b_M_set 14 = .ok (.isub, 1) := by decide +kernel
theorem d_M_set_15 : decode b_M_set 15 = .ok (.istore 5, 2) := by decide +kernel
theorem d_M_set_17 : decode b_M_set 17 = .ok (.iload 5, 2) := by decide +kernel
theorem d_M_set_19 : decode b_M_set 19 = .ok (.iconst 1, 1) := by decide +kernel
theorem d_M_set_20 : decode b_M_set 20 = .ok (.iadd, 1) := by decide +kernel
theorem d_M_set_21 : decode b_M_set 21 = .ok (.istore 6, 2) := by decide +kernel
theorem d_M_set_23 : decode b_M_set 23 = .ok (.aload_n 0, 1) := by decide +kernel
theorem d_M_set_24 : decode b_M_set 24 = .ok (.getfield 53, 3) := by decide +kernel
theorem d_M_set_27 : decode b_M_set 27 = .ok (.iconst 0, 1) := by decide +kernel
theorem d_M_set_28 : decode b_M_set 28 = .ok (.bipush 16, 2) := by decide +kernel
theorem d_M_set_30 : decode b_M_set 30 = .ok (.aload_n 0, 1) := by decide +kernel
theorem d_M_set_31 : decode b_M_set 31 = .ok (.iload 4, 2) := by decide +kernel
theorem d_M_set_33 : decode b_M_set 33 = .ok (.invokevirtual 177, 3) := by decide +kernel
theorem d_M_set_36 : decode b_M_set 36 = .ok (.aload_n 0, 1) := by decide +kernel
theorem d_M_set_37 : decode b_M_set 37 = .ok (.iload_n 1, 1) := by decide +kernel
theorem d_M_set_38 : decode b_M_set 38 = .ok (.invokevirtual 177, 3) := by decide +kernel
theorem d_M_set_41 : decode b_M_set 41 = .ok (.iadd, 1) := by decide +kernel
theorem d_M_set_42 : decode b_M_set 42 = .ok (.imul, 1) := by decide +kernel
theorem d_M_set_43 : decode b_M_set 43 = .ok (.iastore, 1) := by decide +kernel
theorem d_M_set_44 : decode b_M_set 44 = .ok (.aload_n 0, 1) := by decide +kernel
theorem d_M_set_45 : decode b_M_set 45 = .ok (.getfield 56, 3) := by decide +kernel
theorem d_M_set_48 : decode b_M_set 48 = .ok (.iconst 0, 1) := by decide +kernel
theorem d_M_set_49 : decode b_M_set 49 = .ok (.bipush 16, 2) := by decide +kernel
theorem d_M_set_51 : decode b_M_set 51 = .ok (.aload_n 0, 1) := by decide +kernel
theorem d_M_set_52 : decode b_M_set 52 = .ok (.iload 4, 2) := by decide +kernel
theorem d_M_set_54 : decode b_M_set 54 = .ok (.invokevirtual 180, 3) := by decide +kernel
theorem d_M_set_57 : decode b_M_set 57 = .ok (.aload_n 0, 1) := by decide +kernel
theorem d_M_set_58 : decode b_M_set 58 = .ok (.iload_n 1, 1) := by decide +kernel
theorem d_M_set_59 : decode b_M_set 59 = .ok (.invokevirtual 180, 3) := by decide +kernel
theorem d_M_set_62 : decode b_M_set 62 = .ok (.iadd, 1) := by decide +kernel
theorem d_M_set_63 : decode b_M_set 63 = .ok (.imul, 1) := by decide +kernel
theorem d_M_set_64 : decode b_M_set 64 = .ok (.iastore, 1) := by decide +kernel
theorem d_M_set_65 : decode b_M_set 65 = .ok (.aload_n 0, 1) := by decide +kernel
theorem d_M_set_66 : decode b_M_set 66 = .ok (.getfield 53, 3) := by decide +kernel
theorem d_M_set_69 : decode b_M_set 69 = .ok (.iconst 3, 1) := by decide +kernel
theorem d_M_set_70 : decode b_M_set 70 = .ok (.bipush 16, 2) := by decide +kernel
theorem d_M_set_72 : decode b_M_set 72 = .ok (.aload_n 0, 1) := by decide +kernel
theorem d_M_set_73 : decode b_M_set 73 = .ok (.iload 5, 2) := by decide +kernel
theorem d_M_set_75 : decode b_M_set 75 = .ok (.invokevirtual 177, 3) := by decide +kernel
theorem d_M_set_78 : decode b_M_set 78 = .ok (.aload_n 0, 1) := by decide +kernel
theorem d_M_set_79 : decode b_M_set 79 = .ok (.iload 6, 2) := by decide +kernel
theorem d_M_set_81 : decode b_M_set 81 = .ok (.invokevirtual 177, 3) := by decide +kernel
theorem d_M_set_84 : decode b_M_set 84 = .ok (.iadd, 1) := by decide +kernel
theorem d_M_set_85 : decode b_M_set 85 = .ok (.imul, 1) := by decide +kernel
theorem d_M_set_86 : decode b_M_set 86 = .ok (.iastore, 1) := by decide +kernel
theorem d_M_set_87 : decode b_M_set 87 = .ok (.aload_n 0, 1) := by decide +kernel
theorem d_M_set_88 : decode b_M_set 88 = .ok (.getfield 56, 3) := by decide +kernel
theorem d_M_set_91 : decode b_M_set 91 = .ok (.iconst 3, 1) := by decide +kernel
theorem d_M_set_92 : decode b_M_set 92 = .ok (.bipush 16, 2) := by decide +kernel
theorem d_M_set_94 : decode b_M_set 94 = .ok (.aload_n 0, 1) := by decide +kernel
theorem d_M_set_95 : decode b_M_set 95 = .ok (.iload 5, 2) := by decide +kernel
theorem d_M_set_97 : decode b_M_set 97 = .ok (.invokevirtual 180, 3) := by decide +kernel
theorem d_M_set_100 : decode b_M_set 100 = .ok (.aload_n 0, 1) := by decide +kernel
theorem d_M_set_101 : decode b_M_set 101 = .ok (.iload 6, 2) := by decide +kernel
theorem d_M_set_103 : decode b_M_set 103 = .ok (.invokevirtual 180, 3) := by decide +kernel
theorem d_M_set_106 : decode b_M_set 106 = .ok (.iadd, 1) := by decide +kernel
theorem d_M_set_107 : decode b_M_set 107 = .ok (.imul, 1) := by decide +kernel
theorem d_M_set_108 : decode b_M_set 108 = .ok (.iastore, 1) := by decide +kernel
theorem d_M_set_109 : decode b_M_set 109 = .ok (.aload_n 0, 1) := by decide +kernel
theorem d_M_set_110 : decode b_M_set 110 = .ok (.getfield 53, 3) := by decide +kernel
theorem d_M_set_113 : decode b_M_set 113 = .ok (.iconst 1, 1) := by decide +kernel
theorem d_M_set_114 : decode b_M_set 114 = .ok (.iload_n 3, 1) := by decide +kernel
theorem d_M_set_115 : decode b_M_set 115 = .ok (.ifCond .ne 14, 3) := by decide +kernel
theorem d_M_set_118 : decode b_M_set 118 = .ok (.bipush 32, 2) := by decide +kernel
theorem d_M_set_120 : decode b_M_set 120 = .ok (.aload_n 0, 1) := by decide +kernel
theorem d_M_set_121 : decode b_M_set 121 = .ok (.iload_n 1, 1) := by decide +kernel
theorem d_M_set_122 : decode b_M_set 122 = .ok (.invokevirtual 177, 3) := by decide +kernel
theorem d_M_set_125 : decode b_M_set 125 = .ok (.imul, 1) := by decide +kernel
theorem d_M_set_126 : decode b_M_set 126 = .ok (.goto 24, 3) := by decide +kernel
theorem d_M_set_129 : decode b_M_set 129 = .ok (.aload_n 0, 1) := by decide +kernel
theorem d_M_set_130 : decode b_M_set 130 = .ok (.getfield 53, 3) := by decide +kernel
theorem d_M_set_133 : decode b_M_set 133 = .ok (.iconst 0, 1) := by decide +kernel
theorem d_M_set_134 : decode b_M_set 134 = .ok (.iaload, 1) := by decide +kernel
theorem d_M_set_135 : decode b_M_set 135 = .ok (.iload_n 3, 1) := by decide +kernel
theorem d_M_set_136 : decode b_M_set 136 = .ok (.aload_n 0, 1) := by decide +kernel
theorem d_M_set_137 : decode b_M_set 137 = .ok (.iload_n 1, 1) := by decide +kernel
theorem d_M_set_138 : decode b_M_set 138 = .ok (.invokevirtual 177, 3) := by decide +kernel
theorem d_M_set_141 : decode b_M_set 141 = .ok (.aload_n 0, 1) := by decide +kernel
theorem d_M_set_142 : decode b_M_set 142 = .ok (.iload 4, 2) := by decide +kernel
theorem d_M_set_144 : decode b_M_set 144 = .ok (.invokevirtual 177, 3) := by decide +kernel
theorem d_M_set_147 : decode b_M_set 147 = .ok (.isub, 1) := by decide +kernel
theorem d_M_set_148 : decode b_M_set 148 = .ok (.imul, 1) := by decide +kernel
theorem d_M_set_149 : decode b_M_set 149 = .ok (.iadd, 1) := by decide +kernel
theorem d_M_set_150 : decode b_M_set 150 = .ok (.iastore, 1) := by decide +kernel
theorem d_M_set_151 : decode b_M_set 151 = .ok (.aload_n 0, 1) := by decide +kernel
theorem d_M_set_152 : decode b_M_set 152 = .ok (.getfield 56, 3) := by decide +kernel
theorem d_M_set_155 : decode b_M_set 155 = .ok (.iconst 1, 1) := by decide +kernel
theorem d_M_set_156 : decode b_M_set 156 = .ok (.iload_n 3, 1) := by decide +kernel
theorem d_M_set_157 : decode b_M_set 157 = .ok (.ifCond .ne 14, 3) := by decide +kernel
theorem d_M_set_160 : decode b_M_set 160 = .ok (.bipush 32, 2) := by decide +kernel
theorem d_M_set_162 : decode b_M_set 162 = .ok (.aload_n 0, 1) := by decide +kernel
theorem d_M_set_163 : decode b_M_set 163 = .ok (.iload_n 1, 1) := by decide +kernel
theorem d_M_set_164 : decode b_M_set 164 = .ok (.invokevirtual 180, 3) := by decide +kernel
theorem d_M_set_167 : decode b_M_set 167 = .ok (.imul, 1) := by decide +kernel
theorem d_M_set_168 : decode b_M_set 168 = .ok (.goto 24, 3) := by decide +kernel
theorem d_M_set_171 : decode b_M_set 171 = .ok (.aload_n 0, 1) := by decide +kernel
theorem d_M_set_172 : decode b_M_set 172 = .ok (.getfield 56, 3) := by decide +kernel
theorem d_M_set_175 : decode b_M_set 175 = .ok (.iconst 0, 1) := by decide +kernel
theorem d_M_set_176 : decode b_M_set 176 = .ok (.iaload, 1) := by decide +kernel
theorem d_M_set_177 : decode b_M_set 177 = .ok (.iload_n 3, 1) := by decide +kernel
theorem d_M_set_178 : decode b_M_set 178 = .ok (.aload_n 0, 1) := by decide +kernel
theorem d_M_set_179 : decode b_M_set 179 = .ok (.iload_n 1, 1) := by decide +kernel
theorem d_M_set_180 : decode b_M_set 180 = .ok (.invokevirtual 180, 3) := by decide +kernel
theorem d_M_set_183 : decode b_M_set 183 = .ok (.aload_n 0, 1) := by decide +kernel
theorem d_M_set_184 : decode b_M_set 184 = .ok (.iload 4, 2) := by decide +kernel
theorem d_M_set_186 : decode b_M_set 186 = .ok (.invokevirtual 180, 3) := by decide +kernel
theorem d_M_set_189 : decode b_M_set 189 = .ok (.isub, 1) := by decide +kernel
theorem d_M_set_190 : decode b_M_set 190 = .ok (.imul, 1) := by decide +kernel
theorem d_M_set_191 : decode b_M_set 191 = .ok (.iadd, 1) := by decide +kernel
theorem d_M_set_192 : decode b_M_set 192 = .ok (.iastore, 1) := by decide +kernel
theorem d_M_set_193 : decode b_M_set 193 = .ok (.aload_n 0, 1) := by decide +kernel
theorem d_M_set_194 : decode b_M_set 194 = .ok (.getfield 53, 3) := by decide +kernel
theorem d_M_set_197 : decode b_M_set 197 = .ok (.iconst 2, 1) := by decide +kernel
theorem d_M_set_198 : decode b_M_set 198 = .ok (.iload_n 3, 1) := by decide +kernel
theorem d_M_set_199 : decode b_M_set 199 = .ok (.ifCond .ne 14, 3) := by decide +kernel
theorem d_M_set_202 : decode b_M_set 202 = .ok (.bipush 32, 2) := by decide +kernel
theorem d_M_set_204 : decode b_M_set 204 = .ok (.aload_n 0, 1) := by decide +kernel
theorem d_M_set_205 : decode b_M_set 205 = .ok (.iload_n 1, 1) := by decide +kernel
theorem d_M_set_206 : decode b_M_set 206 = .ok (.invokevirtual 177, 3) := by decide +kernel
theorem d_M_set_209 : decode b_M_set 209 = .ok (.imul, 1) := by decide +kernel
theorem d_M_set_210 : decode b_M_set 210 = .ok (.goto 25, 3) := by decide +kernel
theorem d_M_set_213 : decode b_M_set 213 = .ok (.aload_n 0, 1) := by decide +kernel
theorem d_M_set_214 : decode b_M_set 214 = .ok (.getfield 53, 3) := by decide +kernel
theorem d_M_set_217 : decode b_M_set 217 = .ok (.iconst 3, 1) := by decide +kernel
theorem d_M_set_218 : decode b_M_set 218 = .ok (.iaload, 1) := by decide +kernel
theorem d_M_set_219 : decode b_M_set 219 = .ok (.iload_n 3, 1) := by decide +kernel
theorem d_M_set_220 : decode b_M_set 220 = .ok (.aload_n 0, 1) := by decide +kernel
theorem d_M_set_221 : decode b_M_set 221 = .ok (.iload 6, 2) := by decide +kernel
theorem d_M_set_223 : decode b_M_set 223 = .ok (.invokevirtual 177, 3) := by decide +kernel
theorem d_M_set_226 : decode b_M_set 226 = .ok (.aload_n 0, 1) := by decide +kernel
theorem d_M_set_227 : decode b_M_set 227 = .ok (.iload 5, 2) := by decide +kernel
theorem d_M_set_229 : decode b_M_set 229 = .ok (.invokevirtual 177, 3) := by decide +kernel
theorem d_M_set_232 : decode b_M_set 232 = .ok (.isub, 1) := by decide +kernel
theorem d_M_set_233 : decode b_M_set 233 = .ok (.imul, 1) := by decide +kernel
theorem d_M_set_234 : decode b_M_set 234 = .ok (.isub, 1) := by decide +kernel
theorem d_M_set_235 : decode b_M_set 235 = .ok (.iastore, 1) := by decide +kernel
theorem d_M_set_236 : decode b_M_set 236 = .ok (.aload_n 0, 1) := by decide +kernel
theorem d_M_set_237 : decode b_M_set 237 = .ok (.getfield 56, 3) := by decide +kernel
theorem d_M_set_240 : decode b_M_set 240 = .ok (.iconst 2, 1) := by decide +kernel
theorem d_M_set_241 : decode b_M_set 241 = .ok (.iload_n 3, 1) := by decide +kernel
theorem d_M_set_242 : decode b_M_set 242 = .ok (.ifCond .ne 14, 3) := by decide +kernel
theorem d_M_set_245 : decode b_M_set 245 = .ok (.bipush 32, 2) := by decide +kernel
theorem d_M_set_247 : decode b_M_set 247 = .ok (.aload_n 0, 1) := by decide +kernel
theorem d_M_set_248 : decode b_M_set 248 = .ok (.iload_n 1, 1) := by decide +kernel
theorem d_M_set_249 : decode b_M_set 249 = .ok (.invokevirtual 180, 3) := by decide +kernel
theorem d_M_set_252 : decode b_M_set 252 = .ok (.imul, 1) := by decide +kernel
theorem d_M_set_253 : decode b_M_set 253 = .ok (.goto 25, 3) := by decide +kernel
theorem d_M_set_256 : decode b_M_set 256 = .ok (.aload_n 0, 1) := by decide +kernel
theorem d_M_set_257 : decode b_M_set 257 = .ok (.getfield 56, 3) := by decide +kernel
theorem d_M_set_260 : decode b_M_set 260 = .ok (.iconst 3, 1) := by decide +kernel
theorem d_M_set_261 : decode b_M_set 261 = .ok (.iaload, 1) := by decide +kernel
theorem d_M_set_262 : decode b_M_set 262 = .ok (.iload_n 3, 1) := by decide +kernel
theorem d_M_set_263 : decode b_M_set 263 = .ok (.aload_n 0, 1) := by decide +kernel
theorem d_M_set_264 : decode b_M_set 264 = .ok (.iload 6, 2) := by decide +kernel
theorem d_M_set_266 : decode b_M_set 266 = .ok (.invokevirtual 180, 3) := by decide +kernel
theorem d_M_set_269 : decode b_M_set 269 = .ok (.aload_n 0, 1) := by decide +kernel
theorem d_M_set_270 : decode b_M_set 270 = .ok (.iload 5, 2) := by decide +kernel
theorem d_M_set_272 : decode b_M_set 272 = .ok (.invokevirtual 180, 3) := by decide +kernel
theorem d_M_set_275 : decode b_M_set 275 = .ok (.isub, 1) := by decide +kernel
theorem d_M_set_276 : decode b_M_set 276 = .ok (.imul, 1) := by decide +kernel
theorem d_M_set_277 : decode b_M_set 277 = .ok (.isub, 1) := by decide +kernel
theorem d_M_set_278 : decode b_M_set 278 = .ok (.iastore, 1) := by decide +kernel
theorem d_M_set_279 : decode b_M_set 279 = .ok (.return_, 1) := by decide +kernel
theorem d_M_along_0 : decode b_M_along 0 = .ok (.bipush 8, 2) := by decide +kernel
theorem d_M_along_2 : decode b_M_along 2 = .ok (.iload_n 1, 1) := by decide +kernel
theorem d_M_along_3 : decode b_M_along 3 = .ok (.isub, 1) := by decide +kernel
theorem d_M_along_4 : decode b_M_along 4 = .ok (.istore_n 3, 1) := by decide +kernel
theorem d_M_along_5 : decode b_M_along 5 = .ok (.iload_n 2, 1) := by decide +kernel
theorem d_M_along_6 : decode b_M_along 6 = .ok (.ifCond .eq 46, 3) := by decide +kernel
theorem d_M_along_9 : decode b_M_along 9 = .ok (.iload_n 1, 1) := by decide +kernel
theorem d_M_along_10 : decode b_M_along 10 = .ok (.iconst 4, 1) := by decide +kernel
theorem d_M_along_11 : decode b_M_along 11 = .ok (.if_icmp .gt 23, 3) := by decide +kernel
theorem d_M_along_14 : decode b_M_along 14 = .ok (.sipush 128, 3) := by decide +kernel
theorem d_M_along_17 : decode b_M_along 17 = .ok (.iconst 4, 1) := by decide +kernel
theorem d_M_along_18 : decode b_M_along 18 = .ok (.iload_n 1, 1) := by decide +kernel
theorem d_M_along_19 : decode b_M_along 19 = .ok (.isub, 1) := by decide +kernel
theorem d_M_along_20 : decode b_M_along 20 = .ok (.aload_n 0, 1) := by decide +kernel
theorem d_M_along_21 : decode b_M_along 21 = .ok (.iconst 0, 1) := by decide +kernel
theorem d_M_along_22 : decode b_M_along 22 = .ok (.iaload, 1) := by decide +kernel
theorem d_M_along_23 : decode b_M_along 23 = .ok (.imul, 1) := by decide +kernel
theorem d_M_along_24 : decode b_M_along 24 = .ok (.iload_n 1, 1) := by decide +kernel
theorem d_M_along_25 : decode b_M_along 25 = .ok (.aload_n 0, 1) := by decide +kernel
theorem d_M_along_26 : decode b_M_along 26 = .ok (.iconst 1, 1) := by decide +kernel
theorem d_M_along_27 : decode b_M_along 27 = .ok (.iaload, 1) := by decide +kernel
theorem d_M_along_28 : decode b_M_along 28 = .ok (.imul, 1) := by decide +kernel
theorem d_M_along_29 : decode b_M_along 29 = .ok (.iadd, 1) := by decide +kernel
theorem d_M_along_30 : decode b_M_along 30 = .ok (.imul, 1) := by decide +kernel
theorem d_M_along_31 : decode b_M_along 31 = .ok (.goto 20, 3) := by decide +kernel
theorem d_M_along_34 : decode b_M_along 34 = .ok (.sipush 128, 3) := by decide +kernel
theorem d_M_along_37 : decode b_M_along 37 = .ok (.iload_n 3, 1) := by decide +kernel
theorem d_M_along_38 : decode b_M_along 38 = .ok (.aload_n 0, 1) := by decide +kernel
theorem d_M_along_39 : decode b_M_along 39 = .ok (.iconst 1, 1) := by decide +kernel
theorem d_M_along_40 : decode b_M_along 40 = .ok (.iaload, 1) := by decide +kernel
theorem d_M_along_41 : decode b_M_along 41 = .ok (.imul, 1) := by decide +kernel
theorem d_M_along_42 : decode b_M_along 42 = .ok (.iload_n 1, 1) := by decide +kernel
theorem d_M_along_43 : decode b_M_along 43 = .ok (.iconst 4, 1) := by decide +kernel
theorem d_M_along_44 : decode b_M_along 44 = .ok (.isub, 1) := by decide +kernel
theorem d_M_along_45 : decode b_M_along 45 = .ok (.aload_n 0, 1) := by decide +kernel
theorem d_M_along_46 : decode b_M_along 46 = .ok (.iconst 3, 1) := by decide +kernel
theorem d_M_along_47 : decode b_M_along 47 = .ok (.iaload, 1) := by decide +kernel
theorem d_M_along_48 : decode b_M_along 48 = .ok (.imul, 1) := by decide +kernel
theorem d_M_along_49 : decode b_M_along 49 = .ok (.iadd, 1) := by decide +kernel
theorem d_M_along_50 : decode b_M_along 50 = .ok (.imul, 1) := by decide +kernel
theorem d_M_along_51 : decode b_M_along 51 = .ok (.ireturn, 1) := by decide +kernel
theorem d_M_along_52 : decode b_M_along 52 = .ok (.iload_n 3, 1) := by decide +kernel
theorem d_M_along_53 : decode b_M_along 53 = .ok (.iload_n 3, 1) := by decide +kernel
theorem d_M_along_54 : decode b_M_along 54 = .ok (.imul, 1) := by decide +kernel
theorem d_M_along_55 : decode b_M_along 55 = .ok (.iload_n 3, 1) := by decide +kernel
theorem d_M_along_56 : decode b_M_along 56 = .ok (.imul, 1) := by decide +kernel
theorem d_M_along_57 : decode b_M_along 57 = .ok (.aload_n 0, 1) := by decide +kernel
theorem d_M_along_58 : decode b_M_along 58 = .ok (.iconst 0, 1) := by decide +kernel
theorem d_M_along_59 : decode b_M_along 59 = .ok (.iaload, 1) := by decide +kernel
theorem d_M_along_60 : decode b_M_along 60 = .ok (.imul, 1) := by decide +kernel
theorem d_M_along_61 : decode b_M_along 61 = .ok (.iconst 3, 1) := by decide +kernel
theorem d_M_along_62 : decode b_M_along 62 = .ok (.iload_n 3, 1) := by decide +kernel
theorem d_M_along_63 : decode b_M_along 63 = .ok (.imul, 1) := by decide +kernel
theorem d_M_along_64 : decode b_M_along 64 = .ok (.iload_n 3, 1) := by decide +kernel
theorem d_M_along_65 : decode b_M_along 65 = .ok (.imul, 1) := by decide +kernel
theorem d_M_along_66 : decode b_M_along 66 = .ok (.iload_n 1, 1) := by decide +kernel
theorem d_M_along_67 : decode b_M_along 67 = .ok (.imul, 1) := by decide +kernel
theorem d_M_along_68 : decode b_M_along 68 = .ok (.aload_n 0, 1) := by decide +kernel
theorem d_M_along_69 : decode b_M_along 69 = .ok (.iconst 1, 1) := by decide +kernel
theorem d_M_along_70 : decode b_M_along 70 = .ok (.iaload, 1) := by decide +kernel
theorem d_M_along_71 : decode b_M_along 71 = .ok (.imul, 1) := by decide +kernel
theorem d_M_along_72 : decode b_M_along 72 = .ok (.iadd, 1) := by decide +kernel
theorem d_M_along_73 : decode b_M_along 73 = .ok (.iconst 3, 1) := by decide +kernel
theorem d_M_along_74 : decode b_M_along 74 = .ok (.iload_n 3, 1) := by decide +kernel
theorem d_M_along_75 : decode b_M_along 75 = .ok (.imul, 1) := by decide +kernel
theorem d_M_along_76 : decode b_M_along 76 = .ok (.iload_n 1, 1) := by decide +kernel
theorem d_M_along_77 : decode b_M_along 77 = .ok (.imul, 1) := by decide +kernel
theorem d_M_along_78 : decode b_M_along 78 = .ok (.iload_n 1, 1) := by decide +kernel
theorem d_M_along_79 : decode b_M_along 79 = .ok (.imul, 1) := by decide +kernel
theorem d_M_along_80 : decode b_M_along 80 = .ok (.aload_n 0, 1) := by decide +kernel
theorem d_M_along_81 : decode b_M_along 81 = .ok (.iconst 2, 1) := by decide +kernel
theorem d_M_along_82 : decode b_M_along 82 = .ok (.iaload, 1) := by decide +kernel
theorem d_M_along_83 : decode b_M_along 83 = .ok (.imul, 1) := by decide +kernel
theorem d_M_along_84 : decode b_M_along 84 = .ok (.iadd, 1) := by decide +kernel
theorem d_M_along_85 : decode b_M_along 85 = .ok (.iload_n 1, 1) := by decide +kernel
theorem d_M_along_86 : decode b_M_along 86 = .ok (.iload_n 1, 1) := by decide +kernel
theorem d_M_along_87 : decode b_M_along 87 = .ok (.imul, 1) := by decide +kernel
theorem d_M_along_88 : decode b_M_along 88 = .ok (.iload_n 1, 1) := by decide +kernel
theorem d_M_along_89 : decode b_M_along 89 = .ok (.imul, 1) := by decide +kernel
theorem d_M_along_90 : decode b_M_along 90 = .ok (.aload_n 0, 1) := by decide +kernel
theorem d_M_along_91 : decode b_M_along 91 = .ok (.iconst 3, 1) := by decide +kernel
theorem d_M_along_92 : decode b_M_along 92 = .ok (.iaload, 1) := by decide +kernel
theorem d_M_along_93 : decode b_M_along 93 = .ok (.imul, 1) := by decide +kernel
theorem d_M_along_94 : decode b_M_along 94 = .ok (.iadd, 1) := by decide +kernel
theorem d_M_along_95 : decode b_M_along 95 = .ok (.ireturn, 1) := by decide +kernel
theorem d_M_isNearLine_0 : decode b_M_isNearLine 0 = .ok (.ldc2_w 192, 3) := by decide +kernel
theorem d_M_isNearLine_3 : decode b_M_isNearLine 3 = .ok (.aload_n 0, 1) := by decide +kernel
theorem d_M_isNearLine_4 : decode b_M_isNearLine 4 = .ok (.iload 5, 2) := by decide +kernel
theorem d_M_isNearLine_6 : decode b_M_isNearLine 6 = .ok (.invokevirtual 177, 3) := by decide +kernel
theorem d_M_isNearLine_9 : decode b_M_isNearLine 9 = .ok (.i2l, 1) := by decide +kernel
theorem d_M_isNearLine_10 : decode b_M_isNearLine 10 = .ok (.lmul, 1) := by decide +kernel
theorem d_M_isNearLine_11 : decode b_M_isNearLine 11 = .ok (.lstore 7, 2) := by decide +kernel
theorem d_M_isNearLine_13 : decode b_M_isNearLine 13 = .ok (.ldc2_w 192, 3) := by decide +kernel
theorem d_M_isNearLine_16 : decode b_M_isNearLine 16 = .ok (.aload_n 0, 1) := by decide +kernel
theorem d_M_isNearLine_17 : decode b_M_isNearLine 17 = .ok (.iload 5, 2) := by decide +kernel
theorem d_M_isNearLine_19 : decode b_M_isNearLine 19 = .ok (.invokevirtual 180, 3) := by decide +kernel
theorem d_M_isNearLine_22 : decode b_M_isNearLine 22 = .ok (.i2l, 1) := by decide +kernel
theorem d_M_isNearLine_23 : decode b_M_isNearLine 23 = .ok (.lmul, 1) := by decide +kernel
