theorem d_G_measureCorner_112 : decode b_G_measureCorner 112 = .ok (.goto 19, 3) := by decide +kernel
theorem d_G_measureCorner_115 : decode b_G_measureCorner 115 = .ok (.bipush 63, 2) := by decide +kernel
theorem d_G_measureCorner_117 : decode b_G_measureCorner 117 = .ok (.bipush 16, 2) := by decide +kernel
theorem d_G_measureCorner_119 : decode b_G_measureCorner 119 = .ok (.iload 9, 2) := by decide +kernel
theorem d_G_measureCorner_121 : decode b_G_measureCorner 121 = .ok (.invokestatic 105, 3) := by decide +kernel
theorem d_G_measureCorner_124 : decode b_G_measureCorner 124 = .ok (.imul, 1) := by decide +kernel
theorem d_G_measureCorner_125 : decode b_G_measureCorner 125 = .ok (.iload 8, 2) := by decide +kernel
theorem d_G_measureCorner_127 : decode b_G_measureCorner 127 = .ok (.idiv, 1) := by decide +kernel
theorem d_G_measureCorner_128 : decode b_G_measureCorner 128 = .ok (.invokestatic 53, 3) := by decide +kernel
theorem d_G_measureCorner_131 : decode b_G_measureCorner 131 = .ok (.iastore, 1) := by decide +kernel
theorem d_G_measureCorner_132 : decode b_G_measureCorner 132 = .ok (.aload_n 0, 1) := by decide +kernel
theorem d_G_measureCorner_133 : decode b_G_measureCorner 133 = .ok (.getfield 37, 3) := by decide +kernel
theorem d_G_measureCorner_136 : decode b_G_measureCorner 136 = .ok (.iload_n 1, 1) := by decide +kernel
theorem d_G_measureCorner_137 : decode b_G_measureCorner 137 = .ok (.iload 9, 2) := by decide +kernel
theorem d_G_measureCorner_139 : decode b_G_measureCorner 139 = .ok (.iconst 0, 1) := by decide +kernel
theorem d_G_measureCorner_140 : decode b_G_measureCorner 140 = .ok (.invokestatic 108, 3) := by decide +kernel
theorem d_G_measureCorner_143 : decode b_G_measureCorner 143 = .ok (.iastore, 1) := by decide +kernel
theorem d_G_measureCorner_144 : decode b_G_measureCorner 144 = .ok (.return_, 1) := by decide +kernel
theorem d_G_measure_0 : decode b_G_measure 0 = .ok (.aload_n 0, 1) := by decide +kernel
theorem d_G_measure_1 : decode b_G_measure 1 = .ok (.getfield 9, 3) := by decide +kernel
theorem d_G_measure_4 : decode b_G_measure 4 = .ok (.getfield 91, 3) := by decide +kernel
theorem d_G_measure_7 : decode b_G_measure 7 = .ok (.iload_n 1, 1) := by decide +kernel
theorem d_G_measure_8 : decode b_G_measure 8 = .ok (.iaload, 1) := by decide +kernel
theorem d_G_measure_9 : decode b_G_measure 9 = .ok (.istore_n 2, 1) := by decide +kernel
theorem d_G_measure_10 : decode b_G_measure 10 = .ok (.iconst 0, 1) := by decide +kernel
theorem d_G_measure_11 : decode b_G_measure 11 = .ok (.istore_n 3, 1) := by decide +kernel
theorem d_G_measure_12 : decode b_G_measure 12 = .ok (.iload_n 3, 1) := by decide +kernel
theorem d_G_measure_13 : decode b_G_measure 13 = .ok (.aload_n 0, 1) := by decide +kernel
theorem d_G_measure_14 : decode b_G_measure 14 = .ok (.getfield 40, 3) := by decide +kernel
theorem d_G_measure_17 : decode b_G_measure 17 = .ok (.if_icmp .ge 53, 3) := by decide +kernel
theorem d_G_measure_20 : decode b_G_measure 20 = .ok (.aload_n 0, 1) := by decide +kernel
theorem d_G_measure_21 : decode b_G_measure 21 = .ok (.getfield 28, 3) := by decide +kernel
theorem d_G_measure_24 : decode b_G_measure 24 = .ok (.iload_n 3, 1) := by decide +kernel
theorem d_G_measure_25 : decode b_G_measure 25 = .ok (.aload_n 0, 1) := by decide +kernel
theorem d_G_measure_26 : decode b_G_measure 26 = .ok (.getfield 9, 3) := by decide +kernel
theorem d_G_measure_29 : decode b_G_measure 29 = .ok (.getfield 94, 3) := by decide +kernel
theorem d_G_measure_32 : decode b_G_measure 32 = .ok (.iload_n 2, 1) := by decide +kernel
theorem d_G_measure_33 : decode b_G_measure 33 = .ok (.aload_n 0, 1) := by decide +kernel
theorem d_G_measure_34 : decode b_G_measure 34 = .ok (.getfield 25, 3) := by decide +kernel
theorem d_G_measure_37 : decode b_G_measure 37 = .ok (.iload_n 3, 1) := by decide +kernel
theorem d_G_measure_38 : decode b_G_measure 38 = .ok (.iaload, 1) := by decide +kernel
theorem d_G_measure_39 : decode b_G_measure 39 = .ok (.iadd, 1) := by decide +kernel
theorem d_G_measure_40 : decode b_G_measure 40 = .ok (.baload, 1) := by decide +kernel
theorem d_G_measure_41 : decode b_G_measure 41 = .ok (.iastore, 1) := by decide +kernel
theorem d_G_measure_42 : decode b_G_measure 42 = .ok (.aload_n 0, 1) := by decide +kernel
theorem d_G_measure_43 : decode b_G_measure 43 = .ok (.getfield 31, 3) := by decide +kernel
theorem d_G_measure_46 : decode b_G_measure 46 = .ok (.iload_n 3, 1) := by decide +kernel
theorem d_G_measure_47 : decode b_G_measure 47 = .ok (.aload_n 0, 1) := by decide +kernel
theorem d_G_measure_48 : decode b_G_measure 48 = .ok (.getfield 9, 3) := by decide +kernel
theorem d_G_measure_51 : decode b_G_measure 51 = .ok (.getfield 97, 3) := by decide +kernel
theorem d_G_measure_54 : decode b_G_measure 54 = .ok (.iload_n 2, 1) := by decide +kernel
theorem d_G_measure_55 : decode b_G_measure 55 = .ok (.aload_n 0, 1) := by decide +kernel
theorem d_G_measure_56 : decode b_G_measure 56 = .ok (.getfield 25, 3) := by decide +kernel
theorem d_G_measure_59 : decode b_G_measure 59 = .ok (.iload_n 3, 1) := by decide +kernel
theorem d_G_measure_60 : decode b_G_measure 60 = .ok (.iaload, 1) := by decide +kernel
theorem d_G_measure_61 : decode b_G_measure 61 = .ok (.iadd, 1) := by decide +kernel
theorem d_G_measure_62 : decode b_G_measure 62 = .ok (.baload, 1) := by decide +kernel
theorem d_G_measure_63 : decode b_G_measure 63 = .ok (.iastore, 1) := by decide +kernel
theorem d_G_measure_64 : decode b_G_measure 64 = .ok (.iinc 3 1, 3) := by decide +kernel
theorem d_G_measure_67 : decode b_G_measure 67 = .ok (.goto (-55), 3) := by decide +kernel
theorem d_G_measure_70 : decode b_G_measure 70 = .ok (.iconst 0, 1) := by decide +kernel
theorem d_G_measure_71 : decode b_G_measure 71 = .ok (.istore_n 3, 1) := by decide +kernel
theorem d_G_measure_72 : decode b_G_measure 72 = .ok (.iload_n 3, 1) := by decide +kernel
theorem d_G_measure_73 : decode b_G_measure 73 = .ok (.aload_n 0, 1) := by decide +kernel
theorem d_G_measure_74 : decode b_G_measure 74 = .ok (.getfield 40, 3) := by decide +kernel
theorem d_G_measure_77 : decode b_G_measure 77 = .ok (.if_icmp .ge 14, 3) := by decide +kernel
theorem d_G_measure_80 : decode b_G_measure 80 = .ok (.aload_n 0, 1) := by decide +kernel
theorem d_G_measure_81 : decode b_G_measure 81 = .ok (.iload_n 3, 1) := by decide +kernel
theorem d_G_measure_82 : decode b_G_measure 82 = .ok (.invokevirtual 99, 3) := by decide +kernel
theorem d_G_measure_85 : decode b_G_measure 85 = .ok (.iinc 3 1, 3) := by decide +kernel
theorem d_G_measure_88 : decode b_G_measure 88 = .ok (.goto (-16), 3) := by decide +kernel
theorem d_G_measure_91 : decode b_G_measure 91 = .ok (.return_, 1) := by decide +kernel
theorem d_G_find_0 : decode b_G_find 0 = .ok (.aload_n 0, 1) := by decide +kernel
theorem d_G_find_1 : decode b_G_find 1 = .ok (.getfield 9, 3) := by decide +kernel
theorem d_G_find_4 : decode b_G_find 4 = .ok (.iload_n 1, 1) := by decide +kernel
theorem d_G_find_5 : decode b_G_find 5 = .ok (.invokevirtual 47, 3) := by decide +kernel
theorem d_G_find_8 : decode b_G_find 8 = .ok (.aload_n 0, 1) := by decide +kernel
theorem d_G_find_9 : decode b_G_find 9 = .ok (.getfield 25, 3) := by decide +kernel
theorem d_G_find_12 : decode b_G_find 12 = .ok (.arraylength, 1) := by decide +kernel
theorem d_G_find_13 : decode b_G_find 13 = .ok (.invokestatic 53, 3) := by decide +kernel
theorem d_G_find_16 : decode b_G_find 16 = .ok (.istore_n 3, 1) := by decide +kernel
theorem d_G_find_17 : decode b_G_find 17 = .ok (.aload_n 0, 1) := by decide +kernel
theorem d_G_find_18 : decode b_G_find 18 = .ok (.iload_n 1, 1) := by decide +kernel
theorem d_G_find_19 : decode b_G_find 19 = .ok (.iload_n 3, 1) := by decide +kernel
theorem d_G_find_20 : decode b_G_find 20 = .ok (.iload_n 2, 1) := by decide +kernel
theorem d_G_find_21 : decode b_G_find 21 = .ok (.invokevirtual 59, 3) := by decide +kernel
theorem d_G_find_24 : decode b_G_find 24 = .ok (.bipush 24, 2) := by decide +kernel
theorem d_G_find_26 : decode b_G_find 26 = .ok (.iload_n 3, 1) := by decide +kernel
theorem d_G_find_27 : decode b_G_find 27 = .ok (.iconst 3, 1) := by decide +kernel
theorem d_G_find_28 : decode b_G_find 28 = .ok (.isub, 1) := by decide +kernel
theorem d_G_find_29 : decode b_G_find 29 = .ok (.iconst 1, 1) := by decide +kernel
theorem d_G_find_30 : decode b_G_find 30 = .ok (.iadd, 1) := by decide +kernel
theorem d_G_find_31 : decode b_G_find 31 = .ok (.invokestatic 53, 3) := by decide +kernel
theorem d_G_find_34 : decode b_G_find 34 = .ok (.istore 4, 2) := by decide +kernel
theorem d_G_find_36 : decode b_G_find 36 = .ok (.iconst 0, 1) := by decide +kernel
theorem d_G_find_37 : decode b_G_find 37 = .ok (.istore 5, 2) := by decide +kernel
theorem d_G_find_39 : decode b_G_find 39 = .ok (.ldc 63, 2) := by decide +kernel
theorem d_G_find_41 : decode b_G_find 41 = .ok (.istore 6, 2) := by decide +kernel
theorem d_G_find_43 : decode b_G_find 43 = .ok (.iconst 0, 1) := by decide +kernel
theorem d_G_find_44 : decode b_G_find 44 = .ok (.istore 7, 2) := by decide +kernel
theorem d_G_find_46 : decode b_G_find 46 = .ok (.iload 7, 2) := by decide +kernel
theorem d_G_find_48 : decode b_G_find 48 = .ok (.iload 4, 2) := by decide +kernel
theorem d_G_find_50 : decode b_G_find 50 = .ok (.if_icmp .ge 33, 3) := by decide +kernel
theorem d_G_find_53 : decode b_G_find 53 = .ok (.aload_n 0, 1) := by decide +kernel
theorem d_G_find_54 : decode b_G_find 54 = .ok (.iload 7, 2) := by decide +kernel
theorem d_G_find_56 : decode b_G_find 56 = .ok (.iload_n 3, 1) := by decide +kernel
theorem d_G_find_57 : decode b_G_find 57 = .ok (.invokevirtual 64, 3) := by decide +kernel
theorem d_G_find_60 : decode b_G_find 60 = .ok (.istore 8, 2) := by decide +kernel
theorem d_G_find_62 : decode b_G_find 62 = .ok (.iload 8, 2) := by decide +kernel
theorem d_G_find_64 : decode b_G_find 64 = .ok (.iload 6, 2) := by decide +kernel
theorem d_G_find_66 : decode b_G_find 66 = .ok (.if_icmp .ge 11, 3) := by decide +kernel
theorem d_G_find_69 : decode b_G_find 69 = .ok (.iload 8, 2) := by decide +kernel
theorem d_G_find_71 : decode b_G_find 71 = .ok (.istore 6, 2) := by decide +kernel
theorem d_G_find_73 : decode b_G_find 73 = .ok (.iload 7, 2) := by decide +kernel
theorem d_G_find_75 : decode b_G_find 75 = .ok (.istore 5, 2) := by decide +kernel
theorem d_G_find_77 : decode b_G_find 77 = .ok (.iinc 7 1, 3) := by decide +kernel
theorem d_G_find_80 : decode b_G_find 80 = .ok (.goto (-34), 3) := by decide +kernel
theorem d_G_find_83 : decode b_G_find 83 = .ok (.aload_n 0, 1) := by decide +kernel
theorem d_G_find_84 : decode b_G_find 84 = .ok (.iload 5, 2) := by decide +kernel
theorem d_G_find_86 : decode b_G_find 86 = .ok (.iload_n 3, 1) := by decide +kernel
theorem d_G_find_87 : decode b_G_find 87 = .ok (.invokevirtual 64, 3) := by decide +kernel
theorem d_G_find_90 : decode b_G_find 90 = .ok (.pop, 1) := by decide +kernel
theorem d_G_find_91 : decode b_G_find 91 = .ok (.aload_n 0, 1) := by decide +kernel
theorem d_G_find_92 : decode b_G_find 92 = .ok (.iload 5, 2) := by decide +kernel
theorem d_G_find_94 : decode b_G_find 94 = .ok (.iload_n 3, 1) := by decide +kernel
theorem d_G_find_95 : decode b_G_find 95 = .ok (.iload 6, 2) := by decide +kernel
theorem d_G_find_97 : decode b_G_find 97 = .ok (.invokevirtual 67, 3) := by decide +kernel
theorem d_G_find_100 : decode b_G_find 100 = .ok (.aload_n 0, 1) := by decide +kernel
theorem d_G_find_101 : decode b_G_find 101 = .ok (.iload_n 1, 1) := by decide +kernel
theorem d_G_find_102 : decode b_G_find 102 = .ok (.invokevirtual 70, 3) := by decide +kernel
theorem d_G_find_105 : decode b_G_find 105 = .ok (.aload_n 0, 1) := by decide +kernel
theorem d_G_find_106 : decode b_G_find 106 = .ok (.iload 6, 2) := by decide +kernel
theorem d_G_find_108 : decode b_G_find 108 = .ok (.ldc 74, 2) := by decide +kernel
theorem d_G_find_110 : decode b_G_find 110 = .ok (.iand, 1) := by decide +kernel
theorem d_G_find_111 : decode b_G_find 111 = .ok (.putfield 44, 3) := by decide +kernel
theorem d_G_find_114 : decode b_G_find 114 = .ok (.aload_n 0, 1) := by decide +kernel
theorem d_G_find_115 : decode b_G_find 115 = .ok (.getfield 40, 3) := by decide +kernel
theorem d_G_find_118 : decode b_G_find 118 = .ok (.ireturn, 1) := by decide +kernel
theorem d_O_polygon_0 : decode b_O_polygon 0 = .ok (.aload_n 0, 1) := by decide +kernel
theorem d_O_polygon_1 : decode b_O_polygon 1 = .ok (.invokevirtual 73, 3) := by decide +kernel
theorem d_O_polygon_4 : decode b_O_polygon 4 = .ok (.iload_n 1, 1) := by decide +kernel
theorem d_O_polygon_5 : decode b_O_polygon 5 = .ok (.aload_n 0, 1) := by decide +kernel
theorem d_O_polygon_6 : decode b_O_polygon 6 = .ok (.getfield 23, 3) := by decide +kernel
theorem d_O_polygon_9 : decode b_O_polygon 9 = .ok (.getfield 69, 3) := by decide +kernel
theorem d_O_polygon_12 : decode b_O_polygon 12 = .ok (.invokestatic 76, 3) := by decide +kernel
theorem d_O_polygon_15 : decode b_O_polygon 15 = .ok (.iload_n 2, 1) := by decide +kernel
theorem d_O_polygon_16 : decode b_O_polygon 16 = .ok (.iconst 1, 1) := by decide +kernel
theorem d_O_polygon_17 : decode b_O_polygon 17 = .ok (.bipush 8, 2) := by decide +kernel
theorem d_O_polygon_19 : decode b_O_polygon 19 = .ok (.invokestatic 55, 3) := by decide +kernel
theorem d_O_polygon_22 : decode b_O_polygon 22 = .ok (.aload_n 0, 1) := by decide +kernel
theorem d_O_polygon_23 : decode b_O_polygon 23 = .ok (.getfield 45, 3) := by decide +kernel
theorem d_O_polygon_26 : decode b_O_polygon 26 = .ok (.invokevirtual 113, 3) := by decide +kernel
theorem d_O_polygon_29 : decode b_O_polygon 29 = .ok (.aload_n 0, 1) := by decide +kernel
theorem d_O_polygon_30 : decode b_O_polygon 30 = .ok (.getfield 36, 3) := by decide +kernel
theorem d_O_polygon_33 : decode b_O_polygon 33 = .ok (.iload_n 1, 1) := by decide +kernel
theorem d_O_polygon_34 : decode b_O_polygon 34 = .ok (.iload_n 2, 1) := by decide +kernel
theorem d_O_polygon_35 : decode b_O_polygon 35 = .ok (.invokevirtual 116, 3) := by decide +kernel
theorem d_O_polygon_38 : decode b_O_polygon 38 = .ok (.ireturn, 1) := by decide +kernel
theorem d_O_requirePolygon_0 : decode b_O_requirePolygon 0 = .ok (.aload_n 0, 1) := by decide +kernel
theorem d_O_requirePolygon_1 : decode b_O_requirePolygon 1 = .ok (.getfield 36, 3) := by decide +kernel
theorem d_O_requirePolygon_4 : decode b_O_requirePolygon 4 = .ok (.getfield 122, 3) := by decide +kernel
theorem d_O_requirePolygon_7 : decode b_O_requirePolygon 7 = .ok (.ifCond .ne 13, 3) := by decide +kernel
theorem d_O_requirePolygon_10 : decode b_O_requirePolygon 10 = .ok (.new 196, 3) := by decide +kernel
theorem d_O_requirePolygon_13 : decode b_O_requirePolygon 13 = .ok (.dup, 1) := by decide +kernel
theorem d_O_requirePolygon_14 : decode b_O_requirePolygon 14 = .ok (.ldc 201, 2) := by decide +kernel
theorem d_O_requirePolygon_16 : decode b_O_requirePolygon 16 = .ok (.invokespecial 200, 3) := by decide +kernel
theorem d_O_requirePolygon_19 : decode b_O_requirePolygon 19 = .ok (.athrow, 1) := by decide +kernel
theorem d_O_requirePolygon_20 : decode b_O_requirePolygon 20 = .ok (.return_, 1) := by decide +kernel
theorem d_O_corner_0 : decode b_O_corner 0 = .ok (.aload_n 0, 1) := by decide +kernel
theorem d_O_corner_1 : decode b_O_corner 1 = .ok (.invokevirtual 119, 3) := by decide +kernel
theorem d_O_corner_4 : decode b_O_corner 4 = .ok (.iload_n 1, 1) := by decide +kernel
theorem d_O_corner_5 : decode b_O_corner 5 = .ok (.aload_n 0, 1) := by decide +kernel
theorem d_O_corner_6 : decode b_O_corner 6 = .ok (.getfield 36, 3) := by decide +kernel
theorem d_O_corner_9 : decode b_O_corner 9 = .ok (.getfield 122, 3) := by decide +kernel
theorem d_O_corner_12 : decode b_O_corner 12 = .ok (.invokestatic 76, 3) := by decide +kernel
theorem d_O_corner_15 : decode b_O_corner 15 = .ok (.iload_n 2, 1) := by decide +kernel
theorem d_O_corner_16 : decode b_O_corner 16 = .ok (.tableswitch 86 0 4 #[36, 46, 56, 66, 76], 36) := by decide +kernel
theorem d_O_corner_52 : decode b_O_corner 52 = .ok (.aload_n 0, 1) := by decide +kernel
theorem d_O_corner_53 : decode b_O_corner 53 = .ok (.getfield 36, 3) := by decide +kernel
theorem d_O_corner_56 : decode b_O_corner 56 = .ok (.getfield 123, 3) := by decide +kernel
theorem d_O_corner_59 : decode b_O_corner 59 = .ok (.iload_n 1, 1) := by decide +kernel
theorem d_O_corner_60 : decode b_O_corner 60 = .ok (.iaload, 1) := by decide +kernel
theorem d_O_corner_61 : decode b_O_corner 61 = .ok (.ireturn, 1) := by decide +kernel
theorem d_O_corner_62 : decode b_O_corner 62 = .ok (.aload_n 0, 1) := by decide +kernel
theorem d_O_corner_63 : decode b_O_corner 63 = .ok (.getfield 36, 3) := by decide +kernel
theorem d_O_corner_66 : decode b_O_corner 66 = .ok (.getfield 126, 3) := by decide +kernel
theorem d_O_corner_69 : decode b_O_corner 69 = .ok (.iload_n 1, 1) := by decide +kernel
theorem d_O_corner_70 : decode b_O_corner 70 = .ok (.iaload, 1) := by decide +kernel
theorem d_O_corner_71 : decode b_O_corner 71 = .ok (.ireturn, 1) := by decide +kernel
theorem d_O_corner_72 : decode b_O_corner 72 = .ok (.aload_n 0, 1) := by decide +kernel
theorem d_O_corner_73 : decode b_O_corner 73 = .ok (.getfield 36, 3) := by decide +kernel
theorem d_O_corner_76 : decode b_O_corner 76 = .ok (.getfield 128, 3) := by decide +kernel
theorem d_O_corner_79 : decode b_O_corner 79 = .ok (.iload_n 1, 1) := by decide +kernel
theorem d_O_corner_80 : decode b_O_corner 80 = .ok (.iaload, 1) := by decide +kernel
theorem d_O_corner_81 : decode b_O_corner 81 = .ok (.ireturn, 1) := by decide +kernel
theorem d_O_corner_82 : decode b_O_corner 82 = .ok (.aload_n 0, 1) := by decide +kernel
theorem d_O_corner_83 : decode b_O_corner 83 = .ok (.getfield 36, 3) := by decide +kernel
theorem d_O_corner_86 : decode b_O_corner 86 = .ok (.getfield 130, 3) := by decide +kernel
theorem d_O_corner_89 : decode b_O_corner 89 = .ok (.iload_n 1, 1) := by decide +kernel
theorem d_O_corner_90 : decode b_O_corner 90 = .ok (.iaload, 1) := by decide +kernel
theorem d_O_corner_91 : decode b_O_corner 91 = .ok (.ireturn, 1) := by decide +kernel
theorem d_O_corner_92 : decode b_O_corner 92 = .ok (.aload_n 0, 1) := by decide +kernel
theorem d_O_corner_93 : decode b_O_corner 93 = .ok (.getfield 36, 3) := by decide +kernel
theorem d_O_corner_96 : decode b_O_corner 96 = .ok (.getfield 133, 3) := by decide +kernel
theorem d_O_corner_99 : decode b_O_corner 99 = .ok (.iload_n 1, 1) := by decide +kernel
theorem d_O_corner_100 : decode b_O_corner 100 = .ok (.iaload, 1) := by decide +kernel
theorem d_O_corner_101 : decode b_O_corner 101 = .ok (.ireturn, 1) := by decide +kernel
theorem d_O_corner_102 : decode b_O_corner 102 = .ok (.iconst (-1), 1) := by decide +kernel
theorem d_O_corner_103 : decode b_O_corner 103 = .ok (.ireturn, 1) := by decide +kernel
theorem d_C_firstSharp_0 : decode b_C_firstSharp 0 = .ok (.iconst 0, 1) := by decide +kernel
theorem d_C_firstSharp_1 : decode b_C_firstSharp 1 = .ok (.istore_n 2, 1) := by decide +kernel
theorem d_C_firstSharp_2 : decode b_C_firstSharp 2 = .ok (.iload_n 2, 1) := by decide +kernel
theorem d_C_firstSharp_3 : decode b_C_firstSharp 3 = .ok (.aload_n 0, 1) := by decide +kernel
theorem d_C_firstSharp_4 : decode b_C_firstSharp 4 = .ok (.getfield 18, 3) := by decide +kernel
theorem d_C_firstSharp_7 : decode b_C_firstSharp 7 = .ok (.getfield 48, 3) := by decide +kernel
theorem d_C_firstSharp_10 : decode b_C_firstSharp 10 = .ok (.if_icmp .ge 24, 3) := by decide +kernel
theorem d_C_firstSharp_13 : decode b_C_firstSharp 13 = .ok (.aload_n 0, 1) := by decide +kernel
theorem d_C_firstSharp_14 : decode b_C_firstSharp 14 = .ok (.getfield 18, 3) := by decide +kernel
theorem d_C_firstSharp_17 : decode b_C_firstSharp 17 = .ok (.getfield 64, 3) := by decide +kernel
theorem d_C_firstSharp_20 : decode b_C_firstSharp 20 = .ok (.iload_n 2, 1) := by decide +kernel
theorem d_C_firstSharp_21 : decode b_C_firstSharp 21 = .ok (.iaload, 1) := by decide +kernel
theorem d_C_firstSharp_22 : decode b_C_firstSharp 22 = .ok (.iload_n 1, 1) := by decide +kernel
theorem d_C_firstSharp_23 : decode b_C_firstSharp 23 = .ok (.if_icmp .lt 5, 3) := by decide +kernel
theorem d_C_firstSharp_26 : decode b_C_firstSharp 26 = .ok (.iload_n 2, 1) := by decide +kernel
theorem d_C_firstSharp_27 : decode b_C_firstSharp 27 = .ok (.ireturn, 1) := by decide +kernel
theorem d_C_firstSharp_28 : decode b_C_firstSharp 28 = .ok (.iinc 2 1, 3) := by decide +kernel
theorem d_C_firstSharp_31 : decode b_C_firstSharp 31 = .ok (.goto (-29), 3) := by decide +kernel
theorem d_C_firstSharp_34 : decode b_C_firstSharp 34 = .ok (.iconst 0, 1) := by decide +kernel
theorem d_C_firstSharp_35 : decode b_C_firstSharp 35 = .ok (.ireturn, 1) := by decide +kernel
theorem d_C_joinable_0 : decode b_C_joinable 0 = .ok (.aload_n 0, 1) := by decide +kernel
theorem d_C_joinable_1 : decode b_C_joinable 1 = .ok (.getfield 18, 3) := by decide +kernel
theorem d_C_joinable_4 : decode b_C_joinable 4 = .ok (.getfield 77, 3) := by decide +kernel
theorem d_C_joinable_7 : decode b_C_joinable 7 = .ok (.iload_n 2, 1) := by decide +kernel
theorem d_C_joinable_8 : decode b_C_joinable 8 = .ok (.iaload, 1) := by decide +kernel
theorem d_C_joinable_9 : decode b_C_joinable 9 = .ok (.istore 4, 2) := by decide +kernel
theorem d_C_joinable_11 : decode b_C_joinable 11 = .ok (.iload 4, 2) := by decide +kernel
theorem d_C_joinable_13 : decode b_C_joinable 13 = .ok (.ifCond .eq 16, 3) := by decide +kernel
theorem d_C_joinable_16 : decode b_C_joinable 16 = .ok (.aload_n 0, 1) := by decide +kernel
theorem d_C_joinable_17 : decode b_C_joinable 17 = .ok (.getfield 18, 3) := by decide +kernel
theorem d_C_joinable_20 : decode b_C_joinable 20 = .ok (.getfield 64, 3) := by decide +kernel
theorem d_C_joinable_23 : decode b_C_joinable 23 = .ok (.iload_n 2, 1) := by decide +kernel
theorem d_C_joinable_24 : decode b_C_joinable 24 = .ok (.iaload, 1) := by decide +kernel
theorem d_C_joinable_25 : decode b_C_joinable 25 = .ok (.iload_n 3, 1) := by decide +kernel
theorem d_C_joinable_26 : decode b_C_joinable 26 = .ok (.if_icmp .lt 5, 3) := by decide +kernel
theorem d_C_joinable_29 : decode b_C_joinable 29 = .ok (.iconst 1, 1) := by decide +kernel
theorem d_C_joinable_30 : decode b_C_joinable 30 = .ok (.ireturn, 1) := by decide +kernel
theorem d_C_joinable_31 : decode b_C_joinable 31 = .ok (.bipush 6, 2) := by decide +kernel
theorem d_C_joinable_33 : decode b_C_joinable 33 = .ok (.aload_n 0, 1) := by decide +kernel
theorem d_C_joinable_34 : decode b_C_joinable 34 = .ok (.getfield 18, 3) := by decide +kernel
theorem d_C_joinable_37 : decode b_C_joinable 37 = .ok (.getfield 48, 3) := by decide +kernel
theorem d_C_joinable_40 : decode b_C_joinable 40 = .ok (.iload_n 1, 1) := by decide +kernel
theorem d_C_joinable_41 : decode b_C_joinable 41 = .ok (.isub, 1) := by decide +kernel
theorem d_C_joinable_42 : decode b_C_joinable 42 = .ok (.invokestatic 80, 3) := by decide +kernel
theorem d_C_joinable_45 : decode b_C_joinable 45 = .ok (.istore 5, 2) := by decide +kernel
theorem d_C_joinable_47 : decode b_C_joinable 47 = .ok (.iconst 1, 1) := by decide +kernel
theorem d_C_joinable_48 : decode b_C_joinable 48 = .ok (.istore 6, 2) := by decide +kernel
theorem d_C_joinable_50 : decode b_C_joinable 50 = .ok (.iload 6, 2) := by decide +kernel
theorem d_C_joinable_52 : decode b_C_joinable 52 = .ok (.iload 5, 2) := by decide +kernel
theorem d_C_joinable_54 : decode b_C_joinable 54 = .ok (.if_icmp .ge 53, 3) := by decide +kernel
theorem d_C_joinable_57 : decode b_C_joinable 57 = .ok (.aload_n 0, 1) := by decide +kernel
theorem d_C_joinable_58 : decode b_C_joinable 58 = .ok (.getfield 18, 3) := by decide +kernel
theorem d_C_joinable_61 : decode b_C_joinable 61 = .ok (.iload_n 2, 1) := by decide +kernel
theorem d_C_joinable_62 : decode b_C_joinable 62 = .ok (.iload 6, 2) := by decide +kernel
theorem d_C_joinable_64 : decode b_C_joinable 64 = .ok (.invokevirtual 51, 3) := by decide +kernel
theorem d_C_joinable_67 : decode b_C_joinable 67 = .ok (.istore 7, 2) := by decide +kernel
theorem d_C_joinable_69 : decode b_C_joinable 69 = .ok (.aload_n 0, 1) := by decide +kernel
theorem d_C_joinable_70 : decode b_C_joinable 70 = .ok (.getfield 18, 3) := by decide +kernel
theorem d_C_joinable_73 : decode b_C_joinable 73 = .ok (.getfield 77, 3) := by decide +kernel
theorem d_C_joinable_76 : decode b_C_joinable 76 = .ok (.iload 7, 2) := by decide +kernel
theorem d_C_joinable_78 : decode b_C_joinable 78 = .ok (.iaload, 1) := by decide +kernel
theorem d_C_joinable_79 : decode b_C_joinable 79 = .ok (.iload 4, 2) := by decide +kernel
theorem d_C_joinable_81 : decode b_C_joinable 81 = .ok (.if_icmp .ne 17, 3) := by decide +kernel
theorem d_C_joinable_84 : decode b_C_joinable 84 = .ok (.aload_n 0, 1) := by decide +kernel
theorem d_C_joinable_85 : decode b_C_joinable 85 = .ok (.getfield 18, 3) := by decide +kernel
theorem d_C_joinable_88 : decode b_C_joinable 88 = .ok (.getfield 64, 3) := by decide +kernel
theorem d_C_joinable_91 : decode b_C_joinable 91 = .ok (.iload 7, 2) := by decide +kernel
theorem d_C_joinable_93 : decode b_C_joinable 93 = .ok (.iaload, 1) := by decide +kernel
theorem d_C_joinable_94 : decode b_C_joinable 94 = .ok (.iload_n 3, 1) := by decide +kernel
theorem d_C_joinable_95 : decode b_C_joinable 95 = .ok (.if_icmp .lt 6, 3) := by decide +kernel
theorem d_C_joinable_98 : decode b_C_joinable 98 = .ok (.iload 6, 2) := by decide +kernel
theorem d_C_joinable_100 : decode b_C_joinable 100 = .ok (.ireturn, 1) := by decide +kernel
theorem d_C_joinable_101 : decode b_C_joinable 101 = .ok (.iinc 6 1, 3) := by decide +kernel
theorem d_C_joinable_104 : decode b_C_joinable 104 = .ok (.goto (-54), 3) := by decide +kernel
theorem d_C_joinable_107 : decode b_C_joinable 107 = .ok (.iload 5, 2) := by decide +kernel
theorem d_C_joinable_109 : decode b_C_joinable 109 = .ok (.ireturn, 1) := by decide +kernel
theorem d_C_layOn_0 : decode b_C_layOn 0 = .ok (.aload_n 0, 1) := by decide +kernel
theorem d_C_layOn_1 : decode b_C_layOn 1 = .ok (.iconst 0, 1) := by decide +kernel
theorem d_C_layOn_2 : decode b_C_layOn 2 = .ok (.bipush 16, 2) := by decide +kernel
theorem d_C_layOn_4 : decode b_C_layOn 4 = .ok (.aload_n 1, 1) := by decide +kernel
theorem d_C_layOn_5 : decode b_C_layOn 5 = .ok (.iload_n 3, 1) := by decide +kernel
theorem d_C_layOn_6 : decode b_C_layOn 6 = .ok (.iaload, 1) := by decide +kernel
theorem d_C_layOn_7 : decode b_C_layOn 7 = .ok (.aload_n 1, 1) := by decide +kernel
theorem d_C_layOn_8 : decode b_C_layOn 8 = .ok (.iload 4, 2) := by decide +kernel
theorem d_C_layOn_10 : decode b_C_layOn 10 = .ok (.iaload, 1) := by decide +kernel
theorem d_C_layOn_11 : decode b_C_layOn 11 = .ok (.iadd, 1) := by decide +kernel
theorem d_C_layOn_12 : decode b_C_layOn 12 = .ok (.imul, 1) := by decide +kernel
theorem d_C_layOn_13 : decode b_C_layOn 13 = .ok (.iastore, 1) := by decide +kernel
theorem d_C_layOn_14 : decode b_C_layOn 14 = .ok (.aload_n 0, 1) := by decide +kernel
theorem d_C_layOn_15 : decode b_C_layOn 15 = .ok (.iconst 3, 1) := by decide +kernel
theorem d_C_layOn_16 : decode b_C_layOn 16 = .ok (.bipush 16, 2) := by decide +kernel
theorem d_C_layOn_18 : decode b_C_layOn 18 = .ok (.aload_n 1, 1) := by decide +kernel
theorem d_C_layOn_19 : decode b_C_layOn 19 = .ok (.iload 5, 2) := by decide +kernel
theorem d_C_layOn_21 : decode b_C_layOn 21 = .ok (.iaload, 1) := by decide +kernel
theorem d_C_layOn_22 : decode b_C_layOn 22 = .ok (.aload_n 1, 1) := by decide +kernel
theorem d_C_layOn_23 : decode b_C_layOn 23 = .ok (.iload 6, 2) := by decide +kernel
theorem d_C_layOn_25 : decode b_C_layOn 25 = .ok (.iaload, 1) := by decide +kernel
theorem d_C_layOn_26 : decode b_C_layOn 26 = .ok (.iadd, 1) := by decide +kernel
theorem d_C_layOn_27 : decode b_C_layOn 27 = .ok (.imul, 1) := by decide +kernel
theorem d_C_layOn_28 : decode b_C_layOn 28 = .ok (.iastore, 1) := by decide +kernel
theorem d_C_layOn_29 : decode b_C_layOn 29 = .ok (.iload_n 2, 1) := by decide +kernel
theorem d_C_layOn_30 : decode b_C_layOn 30 = .ok (.ifCond .ne 26, 3) := by decide +kernel
theorem d_C_layOn_33 : decode b_C_layOn 33 = .ok (.aload_n 0, 1) := by decide +kernel
theorem d_C_layOn_34 : decode b_C_layOn 34 = .ok (.iconst 1, 1) := by decide +kernel
theorem d_C_layOn_35 : decode b_C_layOn 35 = .ok (.bipush 32, 2) := by decide +kernel
theorem d_C_layOn_37 : decode b_C_layOn 37 = .ok (.aload_n 1, 1) := by decide +kernel
theorem d_C_layOn_38 : decode b_C_layOn 38 = .ok (.iload 4, 2) := by decide +kernel
theorem d_C_layOn_40 : decode b_C_layOn 40 = .ok (.iaload, 1) := by decide +kernel
theorem d_C_layOn_41 : decode b_C_layOn 41 = .ok (.imul, 1) := by decide +kernel
theorem d_C_layOn_42 : decode b_C_layOn 42 = .ok (.iastore, 1) := by decide +kernel
theorem d_C_layOn_43 : decode b_C_layOn 43 = .ok (.aload_n 0, 1) := by decide +kernel
theorem d_C_layOn_44 : decode b_C_layOn 44 = .ok (.iconst 2, 1) := by decide +kernel
theorem d_C_layOn_45 : decode b_C_layOn 45 = .ok (.bipush 32, 2) := by decide +kernel
theorem d_C_layOn_47 : decode b_C_layOn 47 = .ok (.aload_n 1, 1) := by decide +kernel
theorem d_C_layOn_48 : decode b_C_layOn 48 = .ok (.iload 4, 2) := by decide +kernel
theorem d_C_layOn_50 : decode b_C_layOn 50 = .ok (.iaload, 1) := by decide +kernel
theorem d_C_layOn_51 : decode b_C_layOn 51 = .ok (.imul, 1) := by decide +kernel
theorem d_C_layOn_52 : decode b_C_layOn 52 = .ok (.iastore, 1) := by decide +kernel
theorem d_C_layOn_53 : decode b_C_layOn 53 = .ok (.goto 38, 3) := by decide +kernel
theorem d_C_layOn_56 : decode b_C_layOn 56 = .ok (.aload_n 0, 1) := by decide +kernel
theorem d_C_layOn_57 : decode b_C_layOn 57 = .ok (.iconst 1, 1) := by decide +kernel
theorem d_C_layOn_58 : decode b_C_layOn 58 = .ok (.aload_n 0, 1) := by decide +kernel
theorem d_C_layOn_59 : decode b_C_layOn 59 = .ok (.iconst 0, 1) := by decide +kernel
theorem d_C_layOn_60 : decode b_C_layOn 60 = .ok (.iaload, 1) := by decide +kernel
theorem d_C_layOn_61 : decode b_C_layOn 61 = .ok (.iload_n 2, 1) := by decide +kernel
theorem d_C_layOn_62 : decode b_C_layOn 62 = .ok (.aload_n 1, 1) := by decide +kernel
theorem d_C_layOn_63 : decode b_C_layOn 63 = .ok (.iload 4, 2) := by decide +kernel
theorem d_C_layOn_65 : decode b_C_layOn 65 = .ok (.iaload, 1) := by decide +kernel
theorem d_C_layOn_66 : decode b_C_layOn 66 = .ok (.aload_n 1, 1) := by decide +kernel
theorem d_C_layOn_67 : decode b_C_layOn 67 = .ok (.iload_n 3, 1) := by decide +kernel
theorem d_C_layOn_68 : decode b_C_layOn 68 = .ok (.iaload, 1) := by decide +kernel
theorem d_C_layOn_69 : decode b_C_layOn 69 = .ok (.isub, 1) := by decide +kernel
theorem d_C_layOn_70 : decode b_C_layOn 70 = .ok (.imul, 1) := by decide +kernel
theorem d_C_layOn_71 : decode b_C_layOn 71 = .ok (.iadd, 1) := by decide +kernel
theorem d_C_layOn_72 : decode b_C_layOn 72 = .ok (.iastore, 1) := by decide +kernel
theorem d_C_layOn_73 : decode b_C_layOn 73 = .ok (.aload_n 0, 1) := by decide +kernel
theorem d_C_layOn_74 : decode b_C_layOn 74 = .ok (.iconst 2, 1) := by decide +kernel
theorem d_C_layOn_75 : decode b_C_layOn 75 = .ok (.aload_n 0, 1) := by decide +kernel
theorem d_C_layOn_76 : decode b_C_layOn 76 = .ok (.iconst 3, 1) := by decide +kernel
theorem d_C_layOn_77 : decode b_C_layOn 77 = .ok (.iaload, 1) := by decide +kernel
theorem d_C_layOn_78 : decode b_C_layOn 78 = .ok (.iload_n 2, 1) := by decide +kernel
theorem d_C_layOn_79 : decode b_C_layOn 79 = .ok (.aload_n 1, 1) := by decide +kernel
theorem d_C_layOn_80 : decode b_C_layOn 80 = .ok (.iload 6, 2) := by decide +kernel
theorem d_C_layOn_82 : decode b_C_layOn 82 = .ok (.iaload, 1) := by decide +kernel
theorem d_C_layOn_83 : decode b_C_layOn 83 = .ok (.aload_n 1, 1) := by decide +kernel
theorem d_C_layOn_84 : decode b_C_layOn 84 = .ok (.iload 5, 2) := by decide +kernel
theorem d_C_layOn_86 : decode b_C_layOn 86 = .ok (.iaload, 1) := by decide +kernel
theorem d_C_layOn_87 : decode b_C_layOn 87 = .ok (.isub, 1) := by decide +kernel
theorem d_C_layOn_88 : decode b_C_layOn 88 = .ok (.imul, 1) := by decide +kernel
theorem d_C_layOn_89 : decode b_C_layOn 89 = .ok (.isub, 1) := by decide +kernel
theorem d_C_layOn_90 : decode b_C_layOn 90 = .ok (.iastore, 1) := by decide +kernel
theorem d_C_layOn_91 : decode b_C_layOn 91 = .ok (.return_, 1) := by decide +kernel
theorem d_C_layHand_0 : decode b_C_layHand 0 = .ok (.aload_n 0, 1) := by decide +kernel
theorem d_C_layHand_1 : decode b_C_layHand 1 = .ok (.getfield 18, 3) := by decide +kernel
theorem d_C_layHand_4 : decode b_C_layHand 4 = .ok (.iload_n 1, 1) := by decide +kernel
theorem d_C_layHand_5 : decode b_C_layHand 5 = .ok (.iconst (-1), 1) := by decide +kernel
theorem d_C_layHand_6 : decode b_C_layHand 6 = .ok (.invokevirtual 51, 3) := by decide +kernel
theorem d_C_layHand_9 : decode b_C_layHand 9 = .ok (.istore 4, 2) := by decide +kernel
theorem d_C_layHand_11 : decode b_C_layHand 11 = .ok (.aload_n 0, 1) := by decide +kernel
theorem d_C_layHand_12 : decode b_C_layHand 12 = .ok (.getfield 18, 3) := by decide +kernel
theorem d_C_layHand_15 : decode b_C_layHand 15 = .ok (.iload_n 1, 1) := by decide +kernel
theorem d_C_layHand_16 : decode b_C_layHand 16 = .ok (.iload_n 2, 1) := by decide +kernel
theorem d_C_layHand_17 : decode b_C_layHand 17 = .ok (.iconst 1, 1) := by decide +kernel
theorem d_C_layHand_18 : decode b_C_layHand 18 = .ok (.isub, 1) := by decide +kernel
theorem d_C_layHand_19 : decode b_C_layHand 19 = .ok (.invokevirtual 51, 3) := by decide +kernel
theorem d_C_layHand_22 : decode b_C_layHand 22 = .ok (.istore 5, 2) := by decide +kernel
theorem d_C_layHand_24 : decode b_C_layHand 24 = .ok (.aload_n 0, 1) := by decide +kernel
theorem d_C_layHand_25 : decode b_C_layHand 25 = .ok (.getfield 18, 3) := by decide +kernel
theorem d_C_layHand_28 : decode b_C_layHand 28 = .ok (.iload_n 1, 1) := by decide +kernel
theorem d_C_layHand_29 : decode b_C_layHand 29 = .ok (.iload_n 2, 1) := by decide +kernel
theorem d_C_layHand_30 : decode b_C_layHand 30 = .ok (.invokevirtual 51, 3) := by decide +kernel
theorem d_C_layHand_33 : decode b_C_layHand 33 = .ok (.istore 6, 2) := by decide +kernel
theorem d_C_layHand_35 : decode b_C_layHand 35 = .ok (.aload_n 0, 1) := by decide +kernel
theorem d_C_layHand_36 : decode b_C_layHand 36 = .ok (.getfield 11, 3) := by decide +kernel
theorem d_C_layHand_39 : decode b_C_layHand 39 = .ok (.aload_n 0, 1) := by decide +kernel
theorem d_C_layHand_40 : decode b_C_layHand 40 = .ok (.getfield 18, 3) := by decide +kernel
theorem d_C_layHand_43 : decode b_C_layHand 43 = .ok (.getfield 99, 3) := by decide +kernel
theorem d_C_layHand_46 : decode b_C_layHand 46 = .ok (.iload_n 3, 1) := by decide +kernel
theorem d_C_layHand_47 : decode b_C_layHand 47 = .ok (.iload 4, 2) := by decide +kernel
theorem d_C_layHand_49 : decode b_C_layHand 49 = .ok (.iload_n 1, 1) := by decide +kernel
theorem d_C_layHand_50 : decode b_C_layHand 50 = .ok (.iload 5, 2) := by decide +kernel
theorem d_C_layHand_52 : decode b_C_layHand 52 = .ok (.iload 6, 2) := by decide +kernel
theorem d_C_layHand_54 : decode b_C_layHand 54 = .ok (.invokestatic 102, 3) := by decide +kernel
theorem d_C_layHand_57 : decode b_C_layHand 57 = .ok (.aload_n 0, 1) := by decide +kernel
theorem d_C_layHand_58 : decode b_C_layHand 58 = .ok (.getfield 15, 3) := by decide +kernel
theorem d_C_layHand_61 : decode b_C_layHand 61 = .ok (.aload_n 0, 1) := by decide +kernel
theorem d_C_layHand_62 : decode b_C_layHand 62 = .ok (.getfield 18, 3) := by decide +kernel
theorem d_C_layHand_65 : decode b_C_layHand 65 = .ok (.getfield 106, 3) := by decide +kernel
theorem d_C_layHand_68 : decode b_C_layHand 68 = .ok (.iload_n 3, 1) := by decide +kernel
theorem d_C_layHand_69 : decode b_C_layHand 69 = .ok (.iload 4, 2) := by decide +kernel
theorem d_C_layHand_71 : decode b_C_layHand 71 = .ok (.iload_n 1, 1) := by decide +kernel
theorem d_C_layHand_72 : decode b_C_layHand 72 = .ok (.iload 5, 2) := by decide +kernel
theorem d_C_layHand_74 : decode b_C_layHand 74 = .ok (.iload 6, 2) := by decide +kernel
theorem d_C_layHand_76 : decode b_C_layHand 76 = .ok (.invokestatic 102, 3) := by decide +kernel
theorem d_C_layHand_79 : decode b_C_layHand 79 = .ok (.return_, 1) := by decide +kernel
theorem d_C_cubicAt_0 : decode b_C_cubicAt 0 = .ok (.bipush 8, 2) := by decide +kernel
theorem d_C_cubicAt_2 : decode b_C_cubicAt 2 = .ok (.iload_n 1, 1) := by decide +kernel
theorem d_C_cubicAt_3 : decode b_C_cubicAt 3 = .ok (.isub, 1) := by decide +kernel
theorem d_C_cubicAt_4 : decode b_C_cubicAt 4 = .ok (.istore_n 2, 1) := by decide +kernel
theorem d_C_cubicAt_5 : decode b_C_cubicAt 5 = .ok (.iload_n 2, 1) := by decide +kernel
theorem d_C_cubicAt_6 : decode b_C_cubicAt 6 = .ok (.iload_n 2, 1) := by decide +kernel
theorem d_C_cubicAt_7 : decode b_C_cubicAt 7 = .ok (.imul, 1) := by decide +kernel
theorem d_C_cubicAt_8 : decode b_C_cubicAt 8 = .ok (.iload_n 2, 1) := by decide +kernel
theorem d_C_cubicAt_9 : decode b_C_cubicAt 9 = .ok (.imul, 1) := by decide +kernel
theorem d_C_cubicAt_10 : decode b_C_cubicAt 10 = .ok (.aload_n 0, 1) := by decide +kernel
theorem d_C_cubicAt_11 : decode b_C_cubicAt 11 = .ok (.iconst 0, 1) := by decide +kernel
theorem d_C_cubicAt_12 : decode b_C_cubicAt 12 = .ok (.iaload, 1) := by decide +kernel
theorem d_C_cubicAt_13 : decode b_C_cubicAt 13 = .ok (.imul, 1) := by decide +kernel
theorem d_C_cubicAt_14 : decode b_C_cubicAt 14 = .ok (.iconst 3, 1) := by decide +kernel
theorem d_C_cubicAt_15 : decode b_C_cubicAt 15 = .ok (.iload_n 2, 1) := by decide +kernel
theorem d_C_cubicAt_16 : decode b_C_cubicAt 16 = .ok (.imul, 1) := by decide +kernel
theorem d_C_cubicAt_17 : decode b_C_cubicAt 17 = .ok (.iload_n 2, 1) := by decide +kernel
theorem d_C_cubicAt_18 : decode b_C_cubicAt 18 = .ok (.imul, 1) := by decide +kernel
theorem d_C_cubicAt_19 : decode b_C_cubicAt 19 = .ok (.iload_n 1, 1) := by decide +kernel
theorem d_C_cubicAt_20 : decode b_C_cubicAt 20 = .ok (.imul, 1) := by decide +kernel
theorem d_C_cubicAt_21 : decode b_C_cubicAt 21 = .ok (.aload_n 0, 1) := by decide +kernel
theorem d_C_cubicAt_22 : decode b_C_cubicAt 22 = .ok (.iconst 1, 1) := by decide +kernel
theorem d_C_cubicAt_23 : decode b_C_cubicAt 23 = .ok (.iaload, 1) := by decide +kernel
theorem d_C_cubicAt_24 : decode b_C_cubicAt 24 = .ok (.imul, 1) := by decide +kernel
theorem d_C_cubicAt_25 : decode b_C_cubicAt 25 = .ok (.iadd, 1) := by decide +kernel
theorem d_C_cubicAt_26 : decode b_C_cubicAt 26 = .ok (.iconst 3, 1) := by decide +kernel
theorem d_C_cubicAt_27 : decode b_C_cubicAt 27 = .ok (.iload_n 2, 1) := by decide +kernel
theorem d_C_cubicAt_28 : decode b_C_cubicAt 28 = .ok (.imul, 1) := by decide +kernel
theorem d_C_cubicAt_29 : decode b_C_cubicAt 29 = .ok (.iload_n 1, 1) := by decide +kernel
theorem d_C_cubicAt_30 : decode b_C_cubicAt 30 = .ok (.imul, 1) := by decide +kernel
theorem d_C_cubicAt_31 : decode b_C_cubicAt 31 = .ok (.iload_n 1, 1) := by decide +kernel
theorem d_C_cubicAt_32 : decode b_C_cubicAt 32 = .ok (.imul, 1) := by decide +kernel
theorem d_C_cubicAt_33 : decode b_C_cubicAt 33 = .ok (.aload_n 0, 1) := by decide +kernel
theorem d_C_cubicAt_34 : decode b_C_cubicAt 34 = .ok (.iconst 2, 1) := by decide +kernel
theorem d_C_cubicAt_35 : decode b_C_cubicAt 35 = .ok (.iaload, 1) := by decide +kernel
theorem d_C_cubicAt_36 : decode b_C_cubicAt 36 = .ok (.imul, 1) := by decide +kernel
theorem d_C_cubicAt_37 : decode b_C_cubicAt 37 = .ok (.iadd, 1) := by decide +kernel
theorem d_C_cubicAt_38 : decode b_C_cubicAt 38 = .ok (.iload_n 1, 1) := by decide +kernel
theorem d_C_cubicAt_39 : decode b_C_cubicAt 39 = .ok (.iload_n 1, 1) := by decide +kernel
theorem d_C_cubicAt_40 : decode b_C_cubicAt 40 = .ok (.imul, 1) := by decide +kernel
theorem d_C_cubicAt_41 : decode b_C_cubicAt 41 = .ok (.iload_n 1, 1) := by decide +kernel
theorem d_C_cubicAt_42 : decode b_C_cubicAt 42 = .ok (.imul, 1) := by decide +kernel
theorem d_C_cubicAt_43 : decode b_C_cubicAt 43 = .ok (.aload_n 0, 1) := by decide +kernel
theorem d_C_cubicAt_44 : decode b_C_cubicAt 44 = .ok (.iconst 3, 1) := by decide +kernel
theorem d_C_cubicAt_45 : decode b_C_cubicAt 45 = .ok (.iaload, 1) := by decide +kernel
theorem d_C_cubicAt_46 : decode b_C_cubicAt 46 = .ok (.imul, 1) := by decide +kernel
theorem d_C_cubicAt_47 : decode b_C_cubicAt 47 = .ok (.iadd, 1) := by decide +kernel
theorem d_C_cubicAt_48 : decode b_C_cubicAt 48 = .ok (.ireturn, 1) := by decide +kernel
theorem d_C_nearLine_0 : decode b_C_nearLine 0 = .ok (.aload_n 0, 1) := by decide +kernel
theorem d_C_nearLine_1 : decode b_C_nearLine 1 = .ok (.getfield 18, 3) := by decide +kernel
theorem d_C_nearLine_4 : decode b_C_nearLine 4 = .ok (.getfield 99, 3) := by decide +kernel
theorem d_C_nearLine_7 : decode b_C_nearLine 7 = .ok (.iload 4, 2) := by decide +kernel
theorem d_C_nearLine_9 : decode b_C_nearLine 9 = .ok (.iaload, 1) := by decide +kernel
theorem d_C_nearLine_10 : decode b_C_nearLine 10 = .ok (.aload_n 0, 1) := by decide +kernel
theorem d_C_nearLine_11 : decode b_C_nearLine 11 = .ok (.getfield 18, 3) := by decide +kernel
theorem d_C_nearLine_14 : decode b_C_nearLine 14 = .ok (.getfield 99, 3) := by decide +kernel
theorem d_C_nearLine_17 : decode b_C_nearLine 17 = .ok (.iload_n 3, 1) := by decide +kernel
theorem d_C_nearLine_18 : decode b_C_nearLine 18 = .ok (.iaload, 1) := by decide +kernel
theorem d_C_nearLine_19 : decode b_C_nearLine 19 = .ok (.isub, 1) := by decide +kernel
theorem d_C_nearLine_20 : decode b_C_nearLine 20 = .ok (.i2l, 1) := by decide +kernel
theorem d_C_nearLine_21 : decode b_C_nearLine 21 = .ok (.lstore 7, 2) := by decide +kernel
theorem d_C_nearLine_23 : decode b_C_nearLine 23 = .ok (.aload_n 0, 1) := by decide +kernel
theorem d_C_nearLine_24 : decode b_C_nearLine 24 = .ok (.getfield 18, 3) := by decide +kernel
theorem d_C_nearLine_27 : decode b_C_nearLine 27 = .ok (.getfield 106, 3) := by decide +kernel
theorem d_C_nearLine_30 : decode b_C_nearLine 30 = .ok (.iload 4, 2) := by decide +kernel
theorem d_C_nearLine_32 : decode b_C_nearLine 32 = .ok (.iaload, 1) := by decide +kernel
theorem d_C_nearLine_33 : decode b_C_nearLine 33 = .ok (.aload_n 0, 1) := by decide +kernel
theorem d_C_nearLine_34 : decode b_C_nearLine 34 = .ok (.getfield 18, 3) := by decide +kernel
theorem d_C_nearLine_37 : decode b_C_nearLine 37 = .ok (.getfield 106, 3) := by decide +kernel
theorem d_C_nearLine_40 : decode b_C_nearLine 40 = .ok (.iload_n 3, 1) := by decide +kernel
theorem d_C_nearLine_41 : decode b_C_nearLine 41 = .ok (.iaload, 1) := by decide +kernel
theorem d_C_nearLine_42 : decode b_C_nearLine 42 = .ok (.isub, 1) := by decide +kernel
theorem d_C_nearLine_43 : decode b_C_nearLine 43 = .ok (.i2l, 1) := by decide +kernel
theorem d_C_nearLine_44 : decode b_C_nearLine 44 = .ok (.lstore 9, 2) := by decide +kernel
theorem d_C_nearLine_46 : decode b_C_nearLine 46 = .ok (.lload 7, 2) := by decide +kernel
theorem d_C_nearLine_48 : decode b_C_nearLine 48 = .ok (.lload 7, 2) := by decide +kernel
theorem d_C_nearLine_50 : decode b_C_nearLine 50 = .ok (.lmul, 1) := by decide +kernel
theorem d_C_nearLine_51 : decode b_C_nearLine 51 = .ok (.lload 9, 2) := by decide +kernel
theorem d_C_nearLine_53 : decode b_C_nearLine 53 = .ok (.lload 9, 2) := by decide +kernel
theorem d_C_nearLine_55 : decode b_C_nearLine 55 = .ok (.lmul, 1) := by decide +kernel
theorem d_C_nearLine_56 : decode b_C_nearLine 56 = .ok (.ladd, 1) := by decide +kernel
theorem d_C_nearLine_57 : decode b_C_nearLine 57 = .ok (.lstore 11, 2) := by decide +kernel
theorem d_C_nearLine_59 : decode b_C_nearLine 59 = .ok (.iload_n 1, 1) := by decide +kernel
theorem d_C_nearLine_60 : decode b_C_nearLine 60 = .ok (.i2l, 1) := by decide +kernel
theorem d_C_nearLine_61 : decode b_C_nearLine 61 = .ok (.ldc2_w 115, 3) := by decide +kernel
theorem d_C_nearLine_64 : decode b_C_nearLine 64 = .ok (.aload_n 0, 1) := by decide +kernel
theorem d_C_nearLine_65 : decode b_C_nearLine 65 = .ok (.getfield 18, 3) := by decide +kernel
theorem d_C_nearLine_68 : decode b_C_nearLine 68 = .ok (.getfield 99, 3) := by decide +kernel
theorem d_C_nearLine_71 : decode b_C_nearLine 71 = .ok (.iload_n 3, 1) := by decide +kernel
theorem d_C_nearLine_72 : decode b_C_nearLine 72 = .ok (.iaload, 1) := by decide +kernel
theorem d_C_nearLine_73 : decode b_C_nearLine 73 = .ok (.i2l, 1) := by decide +kernel
theorem d_C_nearLine_74 : decode b_C_nearLine 74 = .ok (.lmul, 1) := by decide +kernel
theorem d_C_nearLine_75 : decode b_C_nearLine 75 = .ok (.lsub, 1) := by decide +kernel
theorem d_C_nearLine_76 : decode b_C_nearLine 76 = .ok (.lstore 13, 2) := by decide +kernel
theorem d_C_nearLine_78 : decode b_C_nearLine 78 = .ok (.iload_n 2, 1) := by decide +kernel
theorem d_C_nearLine_79 : decode b_C_nearLine 79 = .ok (.i2l, 1) := by decide +kernel
theorem d_C_nearLine_80 : decode b_C_nearLine 80 = .ok (.ldc2_w 115, 3) := by decide +kernel
theorem d_C_nearLine_83 : decode b_C_nearLine 83 = .ok (.aload_n 0, 1) := by decide +kernel
theorem d_C_nearLine_84 : decode b_C_nearLine 84 = .ok (.getfield 18, 3) := by decide +kernel
theorem d_C_nearLine_87 : decode b_C_nearLine 87 = .ok (.getfield 106, 3) := by decide +kernel
theorem d_C_nearLine_90 : decode b_C_nearLine 90 = .ok (.iload_n 3, 1) := by decide +kernel
theorem d_C_nearLine_91 : decode b_C_nearLine 91 = .ok (.iaload, 1) := by decide +kernel
theorem d_C_nearLine_92 : decode b_C_nearLine 92 = .ok (.i2l, 1) := by decide +kernel
theorem d_C_nearLine_93 : decode b_C_nearLine 93 = .ok (.lmul, 1) := by decide +kernel
theorem d_C_nearLine_94 : decode b_C_nearLine 94 = .ok (.lsub, 1) := by decide +kernel
theorem d_C_nearLine_95 : decode b_C_nearLine 95 = .ok (.lstore 15, 2) := by decide +kernel
theorem d_C_nearLine_97 : decode b_C_nearLine 97 = .ok (.lload 13, 2) := by decide +kernel
theorem d_C_nearLine_99 : decode b_C_nearLine 99 = .ok (.lload 7, 2) := by decide +kernel
theorem d_C_nearLine_101 : decode b_C_nearLine 101 = .ok (.lmul, 1) := by decide +kernel
theorem d_C_nearLine_102 : decode b_C_nearLine 102 = .ok (.lload 15, 2) := by decide +kernel
theorem d_C_nearLine_104 : decode b_C_nearLine 104 = .ok (.lload 9, 2) := by decide +kernel
theorem d_C_nearLine_106 : decode b_C_nearLine 106 = .ok (.lmul, 1) := by decide +kernel
theorem d_C_nearLine_107 : decode b_C_nearLine 107 = .ok (.ladd, 1) := by decide +kernel
theorem d_C_nearLine_108 : decode b_C_nearLine 108 = .ok (.lstore 17, 2) := by decide +kernel
theorem d_C_nearLine_110 : decode b_C_nearLine 110 = .ok (.lload 17, 2) := by decide +kernel
theorem d_C_nearLine_112 : decode b_C_nearLine 112 = .ok (.lconst 0, 1) := by decide +kernel
theorem d_C_nearLine_113 : decode b_C_nearLine 113 = .ok (.lcmp, 1) := by decide +kernel
theorem d_C_nearLine_114 : decode b_C_nearLine 114 = .ok (.ifCond .le 51, 3) := by decide +kernel
theorem d_C_nearLine_117 : decode b_C_nearLine 117 = .ok (.lload 17, 2) := by decide +kernel
theorem d_C_nearLine_119 : decode b_C_nearLine 119 = .ok (.ldc2_w 115, 3) := by decide +kernel
theorem d_C_nearLine_122 : decode b_C_nearLine 122 = .ok (.lload 11, 2) := by decide +kernel
theorem d_C_nearLine_124 : decode b_C_nearLine 124 = .ok (.lmul, 1) := by decide +kernel
theorem d_C_nearLine_125 : decode b_C_nearLine 125 = .ok (.lcmp, 1) := by decide +kernel
theorem d_C_nearLine_126 : decode b_C_nearLine 126 = .ok (.ifCond .ge 39, 3) := by decide +kernel
theorem d_C_nearLine_129 : decode b_C_nearLine 129 = .ok (.lload 13, 2) := by decide +kernel
theorem d_C_nearLine_131 : decode b_C_nearLine 131 = .ok (.lload 9, 2) := by decide +kernel
theorem d_C_nearLine_133 : decode b_C_nearLine 133 = .ok (.lmul, 1) := by decide +kernel
theorem d_C_nearLine_134 : decode b_C_nearLine 134 = .ok (.lload 15, 2) := by decide +kernel
theorem d_C_nearLine_136 : decode b_C_nearLine 136 = .ok (.lload 7, 2) := by decide +kernel
theorem d_C_nearLine_138 : decode b_C_nearLine 138 = .ok (.lmul, 1) := by decide +kernel
theorem d_C_nearLine_139 : decode b_C_nearLine 139 = .ok (.lsub, 1) := by decide +kernel
theorem d_C_nearLine_140 : decode b_C_nearLine 140 = .ok (.lstore 19, 2) := by decide +kernel
theorem d_C_nearLine_142 : decode b_C_nearLine 142 = .ok (.lload 19, 2) := by decide +kernel
theorem d_C_nearLine_144 : decode b_C_nearLine 144 = .ok (.lload 19, 2) := by decide +kernel
theorem d_C_nearLine_146 : decode b_C_nearLine 146 = .ok (.lmul, 1) := by decide +kernel
theorem d_C_nearLine_147 : decode b_C_nearLine 147 = .ok (.lload 5, 2) := by decide +kernel
theorem d_C_nearLine_149 : decode b_C_nearLine 149 = .ok (.lload 5, 2) := by decide +kernel
theorem d_C_nearLine_151 : decode b_C_nearLine 151 = .ok (.lmul, 1) := by decide +kernel
theorem d_C_nearLine_152 : decode b_C_nearLine 152 = .ok (.lload 11, 2) := by decide +kernel
theorem d_C_nearLine_154 : decode b_C_nearLine 154 = .ok (.lmul, 1) := by decide +kernel
theorem d_C_nearLine_155 : decode b_C_nearLine 155 = .ok (.lcmp, 1) := by decide +kernel
theorem d_C_nearLine_156 : decode b_C_nearLine 156 = .ok (.ifCond .gt 7, 3) := by decide +kernel
theorem d_C_nearLine_159 : decode b_C_nearLine 159 = .ok (.iconst 1, 1) := by decide +kernel
theorem d_C_nearLine_160 : decode b_C_nearLine 160 = .ok (.goto 4, 3) := by decide +kernel
theorem d_C_nearLine_163 : decode b_C_nearLine 163 = .ok (.iconst 0, 1) := by decide +kernel
theorem d_C_nearLine_164 : decode b_C_nearLine 164 = .ok (.ireturn, 1) := by decide +kernel
theorem d_C_nearLine_165 : decode b_C_nearLine 165 = .ok (.lload 17, 2) := by decide +kernel
theorem d_C_nearLine_167 : decode b_C_nearLine 167 = .ok (.lconst 0, 1) := by decide +kernel
theorem d_C_nearLine_168 : decode b_C_nearLine 168 = .ok (.lcmp, 1) := by decide +kernel
theorem d_C_nearLine_169 : decode b_C_nearLine 169 = .ok (.ifCond .le 25, 3) := by decide +kernel
theorem d_C_nearLine_172 : decode b_C_nearLine 172 = .ok (.lload 13, 2) := by decide +kernel
theorem d_C_nearLine_174 : decode b_C_nearLine 174 = .ok (.ldc2_w 115, 3) := by decide +kernel
theorem d_C_nearLine_177 : decode b_C_nearLine 177 = .ok (.lload 7, 2) := by decide +kernel
theorem d_C_nearLine_179 : decode b_C_nearLine 179 = .ok (.lmul, 1) := by decide +kernel
theorem d_C_nearLine_180 : decode b_C_nearLine 180 = .ok (.lsub, 1) := by decide +kernel
theorem d_C_nearLine_181 : decode b_C_nearLine 181 = .ok (.lstore 13, 2) := by decide +kernel
theorem d_C_nearLine_183 : decode b_C_nearLine 183 = .ok (.lload 15, 2) := by decide +kernel
theorem d_C_nearLine_185 : decode b_C_nearLine 185 = .ok (.ldc2_w 115, 3) := by decide +kernel
theorem d_C_nearLine_188 : decode b_C_nearLine 188 = .ok (.lload 9, 2) := by decide +kernel
theorem d_C_nearLine_190 : decode b_C_nearLine 190 = .ok (.lmul, 1) := by decide +kernel
theorem d_C_nearLine_191 : decode b_C_nearLine 191 = .ok (.lsub, 1) := by decide +kernel
theorem d_C_nearLine_192 : decode b_C_nearLine 192 = .ok (.lstore 15, 2) := by decide +kernel
theorem d_C_nearLine_194 : decode b_C_nearLine 194 = .ok (.lload 13, 2) := by decide +kernel
theorem d_C_nearLine_196 : decode b_C_nearLine 196 = .ok (.lload 13, 2) := by decide +kernel
theorem d_C_nearLine_198 : decode b_C_nearLine 198 = .ok (.lmul, 1) := by decide +kernel
theorem d_C_nearLine_199 : decode b_C_nearLine 199 = .ok (.lload 15, 2) := by decide +kernel
theorem d_C_nearLine_201 : decode b_C_nearLine 201 = .ok (.lload 15, 2) := by decide +kernel
theorem d_C_nearLine_203 : decode b_C_nearLine 203 = .ok (.lmul, 1) := by decide +kernel
theorem d_C_nearLine_204 : decode b_C_nearLine 204 = .ok (.ladd, 1) := by decide +kernel
theorem d_C_nearLine_205 : decode b_C_nearLine 205 = .ok (.lload 5, 2) := by decide +kernel
theorem d_C_nearLine_207 : decode b_C_nearLine 207 = .ok (.lload 5, 2) := by decide +kernel
theorem d_C_nearLine_209 : decode b_C_nearLine 209 = .ok (.lmul, 1) := by decide +kernel
theorem d_C_nearLine_210 : decode b_C_nearLine 210 = .ok (.lcmp, 1) := by decide +kernel
theorem d_C_nearLine_211 : decode b_C_nearLine 211 = .ok (.ifCond .gt 7, 3) := by decide +kernel
theorem d_C_nearLine_214 : decode b_C_nearLine 214 = .ok (.iconst 1, 1) := by decide +kernel
theorem d_C_nearLine_215 : decode b_C_nearLine 215 = .ok (.goto 4, 3) := by decide +kernel
theorem d_C_nearLine_218 : decode b_C_nearLine 218 = .ok (.iconst 0, 1) := by decide +kernel
theorem d_C_nearLine_219 : decode b_C_nearLine 219 = .ok (.ireturn, 1) := by decide +kernel
theorem d_C_nearLines_0 : decode b_C_nearLines 0 = .ok (.ldc2_w 109, 3) := by decide +kernel
theorem d_C_nearLines_3 : decode b_C_nearLines 3 = .ok (.iload 5, 2) := by decide +kernel
theorem d_C_nearLines_5 : decode b_C_nearLines 5 = .ok (.i2l, 1) := by decide +kernel
theorem d_C_nearLines_6 : decode b_C_nearLines 6 = .ok (.lmul, 1) := by decide +kernel
theorem d_C_nearLines_7 : decode b_C_nearLines 7 = .ok (.lstore 6, 2) := by decide +kernel
theorem d_C_nearLines_9 : decode b_C_nearLines 9 = .ok (.aload_n 0, 1) := by decide +kernel
theorem d_C_nearLines_10 : decode b_C_nearLines 10 = .ok (.getfield 18, 3) := by decide +kernel
theorem d_C_nearLines_13 : decode b_C_nearLines 13 = .ok (.iload_n 1, 1) := by decide +kernel
theorem d_C_nearLines_14 : decode b_C_nearLines 14 = .ok (.iconst (-1), 1) := by decide +kernel
theorem d_C_nearLines_15 : decode b_C_nearLines 15 = .ok (.invokevirtual 51, 3) := by decide +kernel
theorem d_C_nearLines_18 : decode b_C_nearLines 18 = .ok (.istore 8, 2) := by decide +kernel
theorem d_C_nearLines_20 : decode b_C_nearLines 20 = .ok (.iconst 0, 1) := by decide +kernel
theorem d_C_nearLines_21 : decode b_C_nearLines 21 = .ok (.istore 9, 2) := by decide +kernel
theorem d_C_nearLines_23 : decode b_C_nearLines 23 = .ok (.iload 9, 2) := by decide +kernel
theorem d_C_nearLines_25 : decode b_C_nearLines 25 = .ok (.iload_n 2, 1) := by decide +kernel
theorem d_C_nearLines_26 : decode b_C_nearLines 26 = .ok (.if_icmp .gt 43, 3) := by decide +kernel
theorem d_C_nearLines_29 : decode b_C_nearLines 29 = .ok (.aload_n 0, 1) := by decide +kernel
theorem d_C_nearLines_30 : decode b_C_nearLines 30 = .ok (.getfield 18, 3) := by decide +kernel
theorem d_C_nearLines_33 : decode b_C_nearLines 33 = .ok (.iload_n 1, 1) := by decide +kernel
theorem d_C_nearLines_34 : decode b_C_nearLines 34 = .ok (.iload 9, 2) := by decide +kernel
theorem d_C_nearLines_36 : decode b_C_nearLines 36 = .ok (.invokevirtual 51, 3) := by decide +kernel
theorem d_C_nearLines_39 : decode b_C_nearLines 39 = .ok (.istore 10, 2) := by decide +kernel
theorem d_C_nearLines_41 : decode b_C_nearLines 41 = .ok (.aload_n 0, 1) := by decide +kernel
theorem d_C_nearLines_42 : decode b_C_nearLines 42 = .ok (.iload_n 3, 1) := by decide +kernel
theorem d_C_nearLines_43 : decode b_C_nearLines 43 = .ok (.iload 4, 2) := by decide +kernel
theorem d_C_nearLines_45 : decode b_C_nearLines 45 = .ok (.iload 8, 2) := by decide +kernel
theorem d_C_nearLines_47 : decode b_C_nearLines 47 = .ok (.iload 10, 2) := by decide +kernel
theorem d_C_nearLines_49 : decode b_C_nearLines 49 = .ok (.lload 6, 2) := by decide +kernel
theorem d_C_nearLines_51 : decode b_C_nearLines 51 = .ok (.invokevirtual 111, 3) := by decide +kernel
theorem d_C_nearLines_54 : decode b_C_nearLines 54 = .ok (.ifCond .eq 5, 3) := by decide +kernel
theorem d_C_nearLines_57 : decode b_C_nearLines 57 = .ok (.iconst 1, 1) := by decide +kernel
theorem d_C_nearLines_58 : decode b_C_nearLines 58 = .ok (.ireturn, 1) := by decide +kernel
theorem d_C_nearLines_59 : decode b_C_nearLines 59 = .ok (.iload 10, 2) := by decide +kernel
theorem d_C_nearLines_61 : decode b_C_nearLines 61 = .ok (.istore 8, 2) := by decide +kernel
theorem d_C_nearLines_63 : decode b_C_nearLines 63 = .ok (.iinc 9 1, 3) := by decide +kernel
theorem d_C_nearLines_66 : decode b_C_nearLines 66 = .ok (.goto (-43), 3) := by decide +kernel
theorem d_C_nearLines_69 : decode b_C_nearLines 69 = .ok (.iconst 0, 1) := by decide +kernel
theorem d_C_nearLines_70 : decode b_C_nearLines 70 = .ok (.ireturn, 1) := by decide +kernel
theorem d_C_allPlacesNear_0 : decode b_C_allPlacesNear 0 = .ok (.iconst 1, 1) := by decide +kernel
theorem d_C_allPlacesNear_1 : decode b_C_allPlacesNear 1 = .ok (.istore 4, 2) := by decide +kernel
theorem d_C_allPlacesNear_3 : decode b_C_allPlacesNear 3 = .ok (.iload 4, 2) := by decide +kernel
theorem d_C_allPlacesNear_5 : decode b_C_allPlacesNear 5 = .ok (.bipush 8, 2) := by decide +kernel
theorem d_C_allPlacesNear_7 : decode b_C_allPlacesNear 7 = .ok (.if_icmp .ge 39, 3) := by decide +kernel
theorem d_C_allPlacesNear_10 : decode b_C_allPlacesNear 10 = .ok (.aload_n 0, 1) := by decide +kernel
theorem d_C_allPlacesNear_11 : decode b_C_allPlacesNear 11 = .ok (.iload_n 1, 1) := by decide +kernel
theorem d_C_allPlacesNear_12 : decode b_C_allPlacesNear 12 = .ok (.iload_n 2, 1) := by decide +kernel
theorem d_C_allPlacesNear_13 : decode b_C_allPlacesNear 13 = .ok (.aload_n 0, 1) := by decide +kernel
theorem d_C_allPlacesNear_14 : decode b_C_allPlacesNear 14 = .ok (.getfield 11, 3) := by decide +kernel
theorem d_C_allPlacesNear_17 : decode b_C_allPlacesNear 17 = .ok (.iload 4, 2) := by decide +kernel
theorem d_C_allPlacesNear_19 : decode b_C_allPlacesNear 19 = .ok (.invokestatic 91, 3) := by decide +kernel
theorem d_C_allPlacesNear_22 : decode b_C_allPlacesNear 22 = .ok (.aload_n 0, 1) := by decide +kernel
theorem d_C_allPlacesNear_23 : decode b_C_allPlacesNear 23 = .ok (.getfield 15, 3) := by decide +kernel
theorem d_C_allPlacesNear_26 : decode b_C_allPlacesNear 26 = .ok (.iload 4, 2) := by decide +kernel
theorem d_C_allPlacesNear_28 : decode b_C_allPlacesNear 28 = .ok (.invokestatic 91, 3) := by decide +kernel
theorem d_C_allPlacesNear_31 : decode b_C_allPlacesNear 31 = .ok (.iload_n 3, 1) := by decide +kernel
theorem d_C_allPlacesNear_32 : decode b_C_allPlacesNear 32 = .ok (.invokevirtual 95, 3) := by decide +kernel
theorem d_C_allPlacesNear_35 : decode b_C_allPlacesNear 35 = .ok (.ifCond .ne 5, 3) := by decide +kernel
theorem d_C_allPlacesNear_38 : decode b_C_allPlacesNear 38 = .ok (.iconst 0, 1) := by decide +kernel
theorem d_C_allPlacesNear_39 : decode b_C_allPlacesNear 39 = .ok (.ireturn, 1) := by decide +kernel
theorem d_C_allPlacesNear_40 : decode b_C_allPlacesNear 40 = .ok (.iinc 4 1, 3) := by decide +kernel
theorem d_C_allPlacesNear_43 : decode b_C_allPlacesNear 43 = .ok (.goto (-40), 3) := by decide +kernel
theorem d_C_allPlacesNear_46 : decode b_C_allPlacesNear 46 = .ok (.iconst 1, 1) := by decide +kernel
theorem d_C_allPlacesNear_47 : decode b_C_allPlacesNear 47 = .ok (.ireturn, 1) := by decide +kernel
theorem d_C_leastPull_0 : decode b_C_leastPull 0 = .ok (.iconst 1, 1) := by decide +kernel
theorem d_C_leastPull_1 : decode b_C_leastPull 1 = .ok (.istore 4, 2) := by decide +kernel
theorem d_C_leastPull_3 : decode b_C_leastPull 3 = .ok (.iload 4, 2) := by decide +kernel
theorem d_C_leastPull_5 : decode b_C_leastPull 5 = .ok (.bipush 64, 2) := by decide +kernel
theorem d_C_leastPull_7 : decode b_C_leastPull 7 = .ok (.if_icmp .gt 30, 3) := by decide +kernel
theorem d_C_leastPull_10 : decode b_C_leastPull 10 = .ok (.aload_n 0, 1) := by decide +kernel
theorem d_C_leastPull_11 : decode b_C_leastPull 11 = .ok (.iload_n 1, 1) := by decide +kernel
theorem d_C_leastPull_12 : decode b_C_leastPull 12 = .ok (.iload_n 2, 1) := by decide +kernel
theorem d_C_leastPull_13 : decode b_C_leastPull 13 = .ok (.iload 4, 2) := by decide +kernel
theorem d_C_leastPull_15 : decode b_C_leastPull 15 = .ok (.invokevirtual 83, 3) := by decide +kernel
theorem d_C_leastPull_18 : decode b_C_leastPull 18 = .ok (.aload_n 0, 1) := by decide +kernel
theorem d_C_leastPull_19 : decode b_C_leastPull 19 = .ok (.iload_n 1, 1) := by decide +kernel
theorem d_C_leastPull_20 : decode b_C_leastPull 20 = .ok (.iload_n 2, 1) := by decide +kernel
theorem d_C_leastPull_21 : decode b_C_leastPull 21 = .ok (.iload_n 3, 1) := by decide +kernel
theorem d_C_leastPull_22 : decode b_C_leastPull 22 = .ok (.invokevirtual 87, 3) := by decide +kernel
theorem d_C_leastPull_25 : decode b_C_leastPull 25 = .ok (.ifCond .eq 6, 3) := by decide +kernel
theorem d_C_leastPull_28 : decode b_C_leastPull 28 = .ok (.iload 4, 2) := by decide +kernel
theorem d_C_leastPull_30 : decode b_C_leastPull 30 = .ok (.ireturn, 1) := by decide +kernel
theorem d_C_leastPull_31 : decode b_C_leastPull 31 = .ok (.iinc 4 1, 3) := by decide +kernel
theorem d_C_leastPull_34 : decode b_C_leastPull 34 = .ok (.goto (-31), 3) := by decide +kernel
theorem d_C_leastPull_37 : decode b_C_leastPull 37 = .ok (.iconst 0, 1) := by decide +kernel
theorem d_C_leastPull_38 : decode b_C_leastPull 38 = .ok (.ireturn, 1) := by decide +kernel
theorem d_C_choose_0 : decode b_C_choose 0 = .ok (.aload_n 0, 1) := by decide +kernel
theorem d_C_choose_1 : decode b_C_choose 1 = .ok (.getfield 18, 3) := by decide +kernel
theorem d_C_choose_4 : decode b_C_choose 4 = .ok (.getfield 64, 3) := by decide +kernel
theorem d_C_choose_7 : decode b_C_choose 7 = .ok (.iload_n 2, 1) := by decide +kernel
theorem d_C_choose_8 : decode b_C_choose 8 = .ok (.iaload, 1) := by decide +kernel
theorem d_C_choose_9 : decode b_C_choose 9 = .ok (.iload_n 3, 1) := by decide +kernel
theorem d_C_choose_10 : decode b_C_choose 10 = .ok (.if_icmp .lt 7, 3) := by decide +kernel
theorem d_C_choose_13 : decode b_C_choose 13 = .ok (.iconst 0, 1) := by decide +kernel
theorem d_C_choose_14 : decode b_C_choose 14 = .ok (.goto 18, 3) := by decide +kernel
theorem d_C_choose_17 : decode b_C_choose 17 = .ok (.bipush 8, 2) := by decide +kernel
theorem d_C_choose_19 : decode b_C_choose 19 = .ok (.aload_n 0, 1) := by decide +kernel
theorem d_C_choose_20 : decode b_C_choose 20 = .ok (.getfield 18, 3) := by decide +kernel
theorem d_C_choose_23 : decode b_C_choose 23 = .ok (.getfield 64, 3) := by decide +kernel
theorem d_C_choose_26 : decode b_C_choose 26 = .ok (.iload_n 2, 1) := by decide +kernel
theorem d_C_choose_27 : decode b_C_choose 27 = .ok (.iaload, 1) := by decide +kernel
theorem d_C_choose_28 : decode b_C_choose 28 = .ok (.bipush 8, 2) := by decide +kernel
theorem d_C_choose_30 : decode b_C_choose 30 = .ok (.idiv, 1) := by decide +kernel
theorem d_C_choose_31 : decode b_C_choose 31 = .ok (.iadd, 1) := by decide +kernel
theorem d_C_choose_32 : decode b_C_choose 32 = .ok (.istore 5, 2) := by decide +kernel
theorem d_C_choose_34 : decode b_C_choose 34 = .ok (.ldc 69, 2) := by decide +kernel
theorem d_C_choose_36 : decode b_C_choose 36 = .ok (.istore 6, 2) := by decide +kernel
theorem d_C_choose_38 : decode b_C_choose 38 = .ok (.aload_n 0, 1) := by decide +kernel
theorem d_C_choose_39 : decode b_C_choose 39 = .ok (.iload_n 1, 1) := by decide +kernel
theorem d_C_choose_40 : decode b_C_choose 40 = .ok (.iload_n 2, 1) := by decide +kernel
theorem d_C_choose_41 : decode b_C_choose 41 = .ok (.iload_n 3, 1) := by decide +kernel
theorem d_C_choose_42 : decode b_C_choose 42 = .ok (.invokevirtual 70, 3) := by decide +kernel
theorem d_C_choose_45 : decode b_C_choose 45 = .ok (.istore 7, 2) := by decide +kernel
theorem d_C_choose_47 : decode b_C_choose 47 = .ok (.iload 7, 2) := by decide +kernel
theorem d_C_choose_49 : decode b_C_choose 49 = .ok (.ifCond .le 82, 3) := by decide +kernel
theorem d_C_choose_52 : decode b_C_choose 52 = .ok (.iconst 1, 1) := by decide +kernel
theorem d_C_choose_53 : decode b_C_choose 53 = .ok (.aload_n 0, 1) := by decide +kernel
theorem d_C_choose_54 : decode b_C_choose 54 = .ok (.getfield 22, 3) := by decide +kernel
theorem d_C_choose_57 : decode b_C_choose 57 = .ok (.iload_n 1, 1) := by decide +kernel
theorem d_C_choose_58 : decode b_C_choose 58 = .ok (.iload 7, 2) := by decide +kernel
theorem d_C_choose_60 : decode b_C_choose 60 = .ok (.iadd, 1) := by decide +kernel
theorem d_C_choose_61 : decode b_C_choose 61 = .ok (.iaload, 1) := by decide +kernel
theorem d_C_choose_62 : decode b_C_choose 62 = .ok (.iadd, 1) := by decide +kernel
theorem d_C_choose_63 : decode b_C_choose 63 = .ok (.istore 8, 2) := by decide +kernel
theorem d_C_choose_65 : decode b_C_choose 65 = .ok (.iload 8, 2) := by decide +kernel
theorem d_C_choose_67 : decode b_C_choose 67 = .ok (.iload 6, 2) := by decide +kernel
theorem d_C_choose_69 : decode b_C_choose 69 = .ok (.if_icmp .ge 56, 3) := by decide +kernel
theorem d_C_choose_72 : decode b_C_choose 72 = .ok (.iload 7, 2) := by decide +kernel
theorem d_C_choose_74 : decode b_C_choose 74 = .ok (.iconst 1, 1) := by decide +kernel
theorem d_C_choose_75 : decode b_C_choose 75 = .ok (.if_icmp .ne 8, 3) := by decide +kernel
theorem d_C_choose_78 : decode b_C_choose 78 = .ok (.iload 5, 2) := by decide +kernel
theorem d_C_choose_80 : decode b_C_choose 80 = .ok (.goto 12, 3) := by decide +kernel
theorem d_C_choose_83 : decode b_C_choose 83 = .ok (.aload_n 0, 1) := by decide +kernel
theorem d_C_choose_84 : decode b_C_choose 84 = .ok (.iload_n 2, 1) := by decide +kernel
theorem d_C_choose_85 : decode b_C_choose 85 = .ok (.iload 7, 2) := by decide +kernel
theorem d_C_choose_87 : decode b_C_choose 87 = .ok (.iload 4, 2) := by decide +kernel
theorem d_C_choose_89 : decode b_C_choose 89 = .ok (.invokevirtual 74, 3) := by decide +kernel
theorem d_C_choose_92 : decode b_C_choose 92 = .ok (.istore 9, 2) := by decide +kernel
theorem d_C_choose_94 : decode b_C_choose 94 = .ok (.iload 7, 2) := by decide +kernel
theorem d_C_choose_96 : decode b_C_choose 96 = .ok (.iconst 1, 1) := by decide +kernel
theorem d_C_choose_97 : decode b_C_choose 97 = .ok (.if_icmp .eq 8, 3) := by decide +kernel
theorem d_C_choose_100 : decode b_C_choose 100 = .ok (.iload 9, 2) := by decide +kernel
theorem d_C_choose_102 : decode b_C_choose 102 = .ok (.ifCond .le 23, 3) := by decide +kernel
theorem d_C_choose_105 : decode b_C_choose 105 = .ok (.aload_n 0, 1) := by decide +kernel
theorem d_C_choose_106 : decode b_C_choose 106 = .ok (.getfield 25, 3) := by decide +kernel
theorem d_C_choose_109 : decode b_C_choose 109 = .ok (.iload_n 1, 1) := by decide +kernel
theorem d_C_choose_110 : decode b_C_choose 110 = .ok (.iload 7, 2) := by decide +kernel
theorem d_C_choose_112 : decode b_C_choose 112 = .ok (.iastore, 1) := by decide +kernel
theorem d_C_choose_113 : decode b_C_choose 113 = .ok (.aload_n 0, 1) := by decide +kernel
theorem d_C_choose_114 : decode b_C_choose 114 = .ok (.getfield 28, 3) := by decide +kernel
theorem d_C_choose_117 : decode b_C_choose 117 = .ok (.iload_n 1, 1) := by decide +kernel
theorem d_C_choose_118 : decode b_C_choose 118 = .ok (.iload 9, 2) := by decide +kernel
theorem d_C_choose_120 : decode b_C_choose 120 = .ok (.iastore, 1) := by decide +kernel
theorem d_C_choose_121 : decode b_C_choose 121 = .ok (.iload 8, 2) := by decide +kernel
theorem d_C_choose_123 : decode b_C_choose 123 = .ok (.istore 6, 2) := by decide +kernel
theorem d_C_choose_125 : decode b_C_choose 125 = .ok (.iinc 7 (-1), 3) := by decide +kernel
theorem d_C_choose_128 : decode b_C_choose 128 = .ok (.goto (-81), 3) := by decide +kernel
theorem d_C_choose_131 : decode b_C_choose 131 = .ok (.aload_n 0, 1) := by decide +kernel
theorem d_C_choose_132 : decode b_C_choose 132 = .ok (.getfield 22, 3) := by decide +kernel
theorem d_C_choose_135 : decode b_C_choose 135 = .ok (.iload_n 1, 1) := by decide +kernel
theorem d_C_choose_136 : decode b_C_choose 136 = .ok (.iload 6, 2) := by decide +kernel
theorem d_C_choose_138 : decode b_C_choose 138 = .ok (.iastore, 1) := by decide +kernel
theorem d_C_choose_139 : decode b_C_choose 139 = .ok (.return_, 1) := by decide +kernel
theorem d_C_make_0 : decode b_C_make 0 = .ok (.aload_n 0, 1) := by decide +kernel
theorem d_C_make_1 : decode b_C_make 1 = .ok (.iload_n 1, 1) := by decide +kernel
theorem d_C_make_2 : decode b_C_make 2 = .ok (.invokevirtual 44, 3) := by decide +kernel
theorem d_C_make_5 : decode b_C_make 5 = .ok (.istore_n 3, 1) := by decide +kernel
theorem d_C_make_6 : decode b_C_make 6 = .ok (.aload_n 0, 1) := by decide +kernel
theorem d_C_make_7 : decode b_C_make 7 = .ok (.getfield 22, 3) := by decide +kernel
theorem d_C_make_10 : decode b_C_make 10 = .ok (.aload_n 0, 1) := by decide +kernel
theorem d_C_make_11 : decode b_C_make 11 = .ok (.getfield 18, 3) := by decide +kernel
theorem d_C_make_14 : decode b_C_make 14 = .ok (.getfield 48, 3) := by decide +kernel
theorem d_C_make_17 : decode b_C_make 17 = .ok (.iconst 0, 1) := by decide +kernel
theorem d_C_make_18 : decode b_C_make 18 = .ok (.iastore, 1) := by decide +kernel
theorem d_C_make_19 : decode b_C_make 19 = .ok (.aload_n 0, 1) := by decide +kernel
theorem d_C_make_20 : decode b_C_make 20 = .ok (.getfield 18, 3) := by decide +kernel
theorem d_C_make_23 : decode b_C_make 23 = .ok (.getfield 48, 3) := by decide +kernel
theorem d_C_make_26 : decode b_C_make 26 = .ok (.iconst 1, 1) := by decide +kernel
theorem d_C_make_27 : decode b_C_make 27 = .ok (.isub, 1) := by decide +kernel
theorem d_C_make_28 : decode b_C_make 28 = .ok (.istore 4, 2) := by decide +kernel
theorem d_C_make_30 : decode b_C_make 30 = .ok (.iload 4, 2) := by decide +kernel
theorem d_C_make_32 : decode b_C_make 32 = .ok (.ifCond .lt 27, 3) := by decide +kernel
theorem d_C_make_35 : decode b_C_make 35 = .ok (.aload_n 0, 1) := by decide +kernel
theorem d_C_make_36 : decode b_C_make 36 = .ok (.iload 4, 2) := by decide +kernel
theorem d_C_make_38 : decode b_C_make 38 = .ok (.aload_n 0, 1) := by decide +kernel
theorem d_C_make_39 : decode b_C_make 39 = .ok (.getfield 18, 3) := by decide +kernel
theorem d_C_make_42 : decode b_C_make 42 = .ok (.iload_n 3, 1) := by decide +kernel
theorem d_C_make_43 : decode b_C_make 43 = .ok (.iload 4, 2) := by decide +kernel
theorem d_C_make_45 : decode b_C_make 45 = .ok (.invokevirtual 51, 3) := by decide +kernel
theorem d_C_make_48 : decode b_C_make 48 = .ok (.iload_n 1, 1) := by decide +kernel
theorem d_C_make_49 : decode b_C_make 49 = .ok (.iload_n 2, 1) := by decide +kernel
theorem d_C_make_50 : decode b_C_make 50 = .ok (.invokevirtual 55, 3) := by decide +kernel
theorem d_C_make_53 : decode b_C_make 53 = .ok (.iinc 4 (-1), 3) := by decide +kernel
theorem d_C_make_56 : decode b_C_make 56 = .ok (.goto (-26), 3) := by decide +kernel
theorem d_C_make_59 : decode b_C_make 59 = .ok (.aload_n 0, 1) := by decide +kernel
theorem d_C_make_60 : decode b_C_make 60 = .ok (.iconst 0, 1) := by decide +kernel
theorem d_C_make_61 : decode b_C_make 61 = .ok (.putfield 40, 3) := by decide +kernel
theorem d_C_make_64 : decode b_C_make 64 = .ok (.iconst 0, 1) := by decide +kernel
theorem d_C_make_65 : decode b_C_make 65 = .ok (.istore 4, 2) := by decide +kernel
theorem d_C_make_67 : decode b_C_make 67 = .ok (.iload 4, 2) := by decide +kernel
theorem d_C_make_69 : decode b_C_make 69 = .ok (.aload_n 0, 1) := by decide +kernel
theorem d_C_make_70 : decode b_C_make 70 = .ok (.getfield 18, 3) := by decide +kernel
theorem d_C_make_73 : decode b_C_make 73 = .ok (.getfield 48, 3) := by decide +kernel
theorem d_C_make_76 : decode b_C_make 76 = .ok (.if_icmp .ge 83, 3) := by decide +kernel
theorem d_C_make_79 : decode b_C_make 79 = .ok (.aload_n 0, 1) := by decide +kernel
theorem d_C_make_80 : decode b_C_make 80 = .ok (.getfield 31, 3) := by decide +kernel
theorem d_C_make_83 : decode b_C_make 83 = .ok (.aload_n 0, 1) := by decide +kernel
theorem d_C_make_84 : decode b_C_make 84 = .ok (.getfield 40, 3) := by decide +kernel
theorem d_C_make_87 : decode b_C_make 87 = .ok (.aload_n 0, 1) := by decide +kernel
theorem d_C_make_88 : decode b_C_make 88 = .ok (.getfield 18, 3) := by decide +kernel
theorem d_C_make_91 : decode b_C_make 91 = .ok (.iload_n 3, 1) := by decide +kernel
theorem d_C_make_92 : decode b_C_make 92 = .ok (.iload 4, 2) := by decide +kernel
theorem d_C_make_94 : decode b_C_make 94 = .ok (.invokevirtual 51, 3) := by decide +kernel
theorem d_C_make_97 : decode b_C_make 97 = .ok (.iastore, 1) := by decide +kernel
theorem d_C_make_98 : decode b_C_make 98 = .ok (.aload_n 0, 1) := by decide +kernel
theorem d_C_make_99 : decode b_C_make 99 = .ok (.getfield 34, 3) := by decide +kernel
theorem d_C_make_102 : decode b_C_make 102 = .ok (.aload_n 0, 1) := by decide +kernel
theorem d_C_make_103 : decode b_C_make 103 = .ok (.getfield 40, 3) := by decide +kernel
theorem d_C_make_106 : decode b_C_make 106 = .ok (.aload_n 0, 1) := by decide +kernel
theorem d_C_make_107 : decode b_C_make 107 = .ok (.getfield 25, 3) := by decide +kernel
theorem d_C_make_110 : decode b_C_make 110 = .ok (.iload 4, 2) := by decide +kernel
theorem d_C_make_112 : decode b_C_make 112 = .ok (.iaload, 1) := by decide +kernel
theorem d_C_make_113 : decode b_C_make 113 = .ok (.iastore, 1) := by decide +kernel
theorem d_C_make_114 : decode b_C_make 114 = .ok (.aload_n 0, 1) := by decide +kernel
theorem d_C_make_115 : decode b_C_make 115 = .ok (.getfield 37, 3) := by decide +kernel
theorem d_C_make_118 : decode b_C_make 118 = .ok (.aload_n 0, 1) := by decide +kernel
theorem d_C_make_119 : decode b_C_make 119 = .ok (.getfield 40, 3) := by decide +kernel
theorem d_C_make_122 : decode b_C_make 122 = .ok (.aload_n 0, 1) := by decide +kernel
theorem d_C_make_123 : decode b_C_make 123 = .ok (.getfield 28, 3) := by decide +kernel
theorem d_C_make_126 : decode b_C_make 126 = .ok (.iload 4, 2) := by decide +kernel
theorem d_C_make_128 : decode b_C_make 128 = .ok (.iaload, 1) := by decide +kernel
theorem d_C_make_129 : decode b_C_make 129 = .ok (.iastore, 1) := by decide +kernel
theorem d_C_make_130 : decode b_C_make 130 = .ok (.aload_n 0, 1) := by decide +kernel
theorem d_C_make_131 : decode b_C_make 131 = .ok (.dup, 1) := by decide +kernel
theorem d_C_make_132 : decode b_C_make 132 = .ok (.getfield 40, 3) := by decide +kernel
theorem d_C_make_135 : decode b_C_make 135 = .ok (.iconst 1, 1) := by decide +kernel
theorem d_C_make_136 : decode b_C_make 136 = .ok (.iadd, 1) := by decide +kernel
theorem d_C_make_137 : decode b_C_make 137 = .ok (.putfield 40, 3) := by decide +kernel
theorem d_C_make_140 : decode b_C_make 140 = .ok (.iload 4, 2) := by decide +kernel
theorem d_C_make_142 : decode b_C_make 142 = .ok (.iconst 1, 1) := by decide +kernel
theorem d_C_make_143 : decode b_C_make 143 = .ok (.aload_n 0, 1) := by decide +kernel
theorem d_C_make_144 : decode b_C_make 144 = .ok (.getfield 25, 3) := by decide +kernel
theorem d_C_make_147 : decode b_C_make 147 = .ok (.iload 4, 2) := by decide +kernel
theorem d_C_make_149 : decode b_C_make 149 = .ok (.iaload, 1) := by decide +kernel
theorem d_C_make_150 : decode b_C_make 150 = .ok (.invokestatic 59, 3) := by decide +kernel
theorem d_C_make_153 : decode b_C_make 153 = .ok (.iadd, 1) := by decide +kernel
theorem d_C_make_154 : decode b_C_make 154 = .ok (.istore 4, 2) := by decide +kernel
theorem d_C_make_156 : decode b_C_make 156 = .ok (.goto (-89), 3) := by decide +kernel
theorem d_C_make_159 : decode b_C_make 159 = .ok (.aload_n 0, 1) := by decide +kernel
theorem d_C_make_160 : decode b_C_make 160 = .ok (.getfield 40, 3) := by decide +kernel
theorem d_C_make_163 : decode b_C_make 163 = .ok (.ireturn, 1) := by decide +kernel
theorem d_O_curves_0 : decode b_O_curves 0 = .ok (.aload_n 0, 1) := by decide +kernel
theorem d_O_curves_1 : decode b_O_curves 1 = .ok (.invokevirtual 119, 3) := by decide +kernel
theorem d_O_curves_4 : decode b_O_curves 4 = .ok (.iload_n 1, 1) := by decide +kernel
theorem d_O_curves_5 : decode b_O_curves 5 = .ok (.iconst 0, 1) := by decide +kernel
theorem d_O_curves_6 : decode b_O_curves 6 = .ok (.bipush 65, 2) := by decide +kernel
theorem d_O_curves_8 : decode b_O_curves 8 = .ok (.invokestatic 55, 3) := by decide +kernel
theorem d_O_curves_11 : decode b_O_curves 11 = .ok (.iload_n 2, 1) := by decide +kernel
theorem d_O_curves_12 : decode b_O_curves 12 = .ok (.iconst 0, 1) := by decide +kernel
theorem d_O_curves_13 : decode b_O_curves 13 = .ok (.bipush 64, 2) := by decide +kernel
theorem d_O_curves_15 : decode b_O_curves 15 = .ok (.invokestatic 55, 3) := by decide +kernel
theorem d_O_curves_18 : decode b_O_curves 18 = .ok (.aload_n 0, 1) := by decide +kernel
theorem d_O_curves_19 : decode b_O_curves 19 = .ok (.getfield 45, 3) := by decide +kernel
theorem d_O_curves_22 : decode b_O_curves 22 = .ok (.iload_n 1, 1) := by decide +kernel
theorem d_O_curves_23 : decode b_O_curves 23 = .ok (.iload_n 2, 1) := by decide +kernel
theorem d_O_curves_24 : decode b_O_curves 24 = .ok (.invokevirtual 136, 3) := by decide +kernel
theorem d_O_curves_27 : decode b_O_curves 27 = .ok (.ireturn, 1) := by decide +kernel
theorem d_O_requireCurve_0 : decode b_O_requireCurve 0 = .ok (.aload_n 0, 1) := by decide +kernel
theorem d_O_requireCurve_1 : decode b_O_requireCurve 1 = .ok (.getfield 45, 3) := by decide +kernel
theorem d_O_requireCurve_4 : decode b_O_requireCurve 4 = .ok (.getfield 175, 3) := by decide +kernel
theorem d_O_requireCurve_7 : decode b_O_requireCurve 7 = .ok (.ifCond .ne 13, 3) := by decide +kernel
theorem d_O_requireCurve_10 : decode b_O_requireCurve 10 = .ok (.new 196, 3) := by decide +kernel
theorem d_O_requireCurve_13 : decode b_O_requireCurve 13 = .ok (.dup, 1) := by decide +kernel
theorem d_O_requireCurve_14 : decode b_O_requireCurve 14 = .ok (.ldc 203, 2) := by decide +kernel
theorem d_O_requireCurve_16 : decode b_O_requireCurve 16 = .ok (.invokespecial 200, 3) := by decide +kernel
theorem d_O_requireCurve_19 : decode b_O_requireCurve 19 = .ok (.athrow, 1) := by decide +kernel
theorem d_O_requireCurve_20 : decode b_O_requireCurve 20 = .ok (.iload_n 1, 1) := by decide +kernel
theorem d_O_requireCurve_21 : decode b_O_requireCurve 21 = .ok (.aload_n 0, 1) := by decide +kernel
theorem d_O_requireCurve_22 : decode b_O_requireCurve 22 = .ok (.getfield 45, 3) := by decide +kernel
theorem d_O_requireCurve_25 : decode b_O_requireCurve 25 = .ok (.getfield 175, 3) := by decide +kernel
theorem d_O_requireCurve_28 : decode b_O_requireCurve 28 = .ok (.invokestatic 76, 3) := by decide +kernel
theorem d_O_requireCurve_31 : decode b_O_requireCurve 31 = .ok (.return_, 1) := by decide +kernel
theorem d_C_ordinate_0 : decode b_C_ordinate 0 = .ok (.aload_n 0, 1) := by decide +kernel
theorem d_C_ordinate_1 : decode b_C_ordinate 1 = .ok (.aload_n 0, 1) := by decide +kernel
theorem d_C_ordinate_2 : decode b_C_ordinate 2 = .ok (.getfield 31, 3) := by decide +kernel
theorem d_C_ordinate_5 : decode b_C_ordinate 5 = .ok (.iload_n 1, 1) := by decide +kernel
theorem d_C_ordinate_6 : decode b_C_ordinate 6 = .ok (.iaload, 1) := by decide +kernel
theorem d_C_ordinate_7 : decode b_C_ordinate 7 = .ok (.aload_n 0, 1) := by decide +kernel
theorem d_C_ordinate_8 : decode b_C_ordinate 8 = .ok (.getfield 34, 3) := by decide +kernel
theorem d_C_ordinate_11 : decode b_C_ordinate 11 = .ok (.iload_n 1, 1) := by decide +kernel
theorem d_C_ordinate_12 : decode b_C_ordinate 12 = .ok (.iaload, 1) := by decide +kernel
theorem d_C_ordinate_13 : decode b_C_ordinate 13 = .ok (.aload_n 0, 1) := by decide +kernel
theorem d_C_ordinate_14 : decode b_C_ordinate 14 = .ok (.getfield 37, 3) := by decide +kernel
theorem d_C_ordinate_17 : decode b_C_ordinate 17 = .ok (.iload_n 1, 1) := by decide +kernel
theorem d_C_ordinate_18 : decode b_C_ordinate 18 = .ok (.iaload, 1) := by decide +kernel
theorem d_C_ordinate_19 : decode b_C_ordinate 19 = .ok (.invokevirtual 83, 3) := by decide +kernel
theorem d_C_ordinate_22 : decode b_C_ordinate 22 = .ok (.iload_n 2, 1) := by decide +kernel
theorem d_C_ordinate_23 : decode b_C_ordinate 23 = .ok (.iconst 1, 1) := by decide +kernel
theorem d_C_ordinate_24 : decode b_C_ordinate 24 = .ok (.ishr, 1) := by decide +kernel
theorem d_C_ordinate_25 : decode b_C_ordinate 25 = .ok (.iconst 3, 1) := by decide +kernel
theorem d_C_ordinate_26 : decode b_C_ordinate 26 = .ok (.iand, 1) := by decide +kernel
theorem d_C_ordinate_27 : decode b_C_ordinate 27 = .ok (.istore_n 3, 1) := by decide +kernel
theorem d_C_ordinate_28 : decode b_C_ordinate 28 = .ok (.iload_n 2, 1) := by decide +kernel
theorem d_C_ordinate_29 : decode b_C_ordinate 29 = .ok (.iconst 1, 1) := by decide +kernel
theorem d_C_ordinate_30 : decode b_C_ordinate 30 = .ok (.iand, 1) := by decide +kernel
theorem d_C_ordinate_31 : decode b_C_ordinate 31 = .ok (.ifCond .ne 12, 3) := by decide +kernel
theorem d_C_ordinate_34 : decode b_C_ordinate 34 = .ok (.aload_n 0, 1) := by decide +kernel
theorem d_C_ordinate_35 : decode b_C_ordinate 35 = .ok (.getfield 11, 3) := by decide +kernel
theorem d_C_ordinate_38 : decode b_C_ordinate 38 = .ok (.iload_n 3, 1) := by decide +kernel
theorem d_C_ordinate_39 : decode b_C_ordinate 39 = .ok (.iaload, 1) := by decide +kernel
theorem d_C_ordinate_40 : decode b_C_ordinate 40 = .ok (.goto 9, 3) := by decide +kernel
theorem d_C_ordinate_43 : decode b_C_ordinate 43 = .ok (.aload_n 0, 1) := by decide +kernel
theorem d_C_ordinate_44 : decode b_C_ordinate 44 = .ok (.getfield 15, 3) := by decide +kernel
theorem d_C_ordinate_47 : decode b_C_ordinate 47 = .ok (.iload_n 3, 1) := by decide +kernel
theorem d_C_ordinate_48 : decode b_C_ordinate 48 = .ok (.iaload, 1) := by decide +kernel
theorem d_C_ordinate_49 : decode b_C_ordinate 49 = .ok (.ireturn, 1) := by decide +kernel
theorem d_O_curve_0 : decode b_O_curve 0 = .ok (.aload_n 0, 1) := by decide +kernel
theorem d_O_curve_1 : decode b_O_curve 1 = .ok (.iload_n 1, 1) := by decide +kernel
theorem d_O_curve_2 : decode b_O_curve 2 = .ok (.invokevirtual 139, 3) := by decide +kernel
theorem d_O_curve_5 : decode b_O_curve 5 = .ok (.iload_n 2, 1) := by decide +kernel
theorem d_O_curve_6 : decode b_O_curve 6 = .ok (.tableswitch 56 0 2 #[26, 36, 46], 26) := by decide +kernel
theorem d_O_curve_32 : decode b_O_curve 32 = .ok (.aload_n 0, 1) := by decide +kernel
theorem d_O_curve_33 : decode b_O_curve 33 = .ok (.getfield 45, 3) := by decide +kernel
theorem d_O_curve_36 : decode b_O_curve 36 = .ok (.getfield 143, 3) := by decide +kernel
theorem d_O_curve_39 : decode b_O_curve 39 = .ok (.iload_n 1, 1) := by decide +kernel
theorem d_O_curve_40 : decode b_O_curve 40 = .ok (.iaload, 1) := by decide +kernel
theorem d_O_curve_41 : decode b_O_curve 41 = .ok (.ireturn, 1) := by decide +kernel
theorem d_O_curve_42 : decode b_O_curve 42 = .ok (.aload_n 0, 1) := by decide +kernel
theorem d_O_curve_43 : decode b_O_curve 43 = .ok (.getfield 45, 3) := by decide +kernel
theorem d_O_curve_46 : decode b_O_curve 46 = .ok (.getfield 146, 3) := by decide +kernel
theorem d_O_curve_49 : decode b_O_curve 49 = .ok (.iload_n 1, 1) := by decide +kernel
theorem d_O_curve_50 : decode b_O_curve 50 = .ok (.iaload, 1) := by decide +kernel
theorem d_O_curve_51 : decode b_O_curve 51 = .ok (.ireturn, 1) := by decide +kernel
theorem d_O_curve_52 : decode b_O_curve 52 = .ok (.aload_n 0, 1) := by decide +kernel
theorem d_O_curve_53 : decode b_O_curve 53 = .ok (.getfield 45, 3) := by decide +kernel
theorem d_O_curve_56 : decode b_O_curve 56 = .ok (.getfield 149, 3) := by decide +kernel
theorem d_O_curve_59 : decode b_O_curve 59 = .ok (.iload_n 1, 1) := by decide +kernel
theorem d_O_curve_60 : decode b_O_curve 60 = .ok (.iaload, 1) := by decide +kernel
theorem d_O_curve_61 : decode b_O_curve 61 = .ok (.ireturn, 1) := by decide +kernel
theorem d_O_curve_62 : decode b_O_curve 62 = .ok (.iload_n 2, 1) := by decide +kernel
theorem d_O_curve_63 : decode b_O_curve 63 = .ok (.iconst 3, 1) := by decide +kernel
theorem d_O_curve_64 : decode b_O_curve 64 = .ok (.if_icmp .lt 23, 3) := by decide +kernel
theorem d_O_curve_67 : decode b_O_curve 67 = .ok (.iload_n 2, 1) := by decide +kernel
theorem d_O_curve_68 : decode b_O_curve 68 = .ok (.bipush 10, 2) := by decide +kernel
theorem d_O_curve_70 : decode b_O_curve 70 = .ok (.if_icmp .gt 17, 3) := by decide +kernel
theorem d_O_curve_73 : decode b_O_curve 73 = .ok (.aload_n 0, 1) := by decide +kernel
theorem d_O_curve_74 : decode b_O_curve 74 = .ok (.getfield 45, 3) := by decide +kernel
theorem d_O_curve_77 : decode b_O_curve 77 = .ok (.iload_n 1, 1) := by decide +kernel
theorem d_O_curve_78 : decode b_O_curve 78 = .ok (.iload_n 2, 1) := by decide +kernel
theorem d_O_curve_79 : decode b_O_curve 79 = .ok (.iconst 3, 1) := by decide +kernel
theorem d_O_curve_80 : decode b_O_curve 80 = .ok (.isub, 1) := by decide +kernel
theorem d_O_curve_81 : decode b_O_curve 81 = .ok (.invokevirtual 152, 3) := by decide +kernel
theorem d_O_curve_84 : decode b_O_curve 84 = .ok (.goto 4, 3) := by decide +kernel
theorem d_O_curve_87 : decode b_O_curve 87 = .ok (.iconst (-1), 1) := by decide +kernel
theorem d_O_curve_88 : decode b_O_curve 88 = .ok (.ireturn, 1) := by decide +kernel
theorem d_C_sharpAt_0 : decode b_C_sharpAt 0 = .ok (.iload_n 1, 1) := by decide +kernel
theorem d_C_sharpAt_1 : decode b_C_sharpAt 1 = .ok (.iconst 4, 1) := by decide +kernel
theorem d_C_sharpAt_2 : decode b_C_sharpAt 2 = .ok (.if_icmp .gt 19, 3) := by decide +kernel
theorem d_C_sharpAt_5 : decode b_C_sharpAt 5 = .ok (.iconst 4, 1) := by decide +kernel
theorem d_C_sharpAt_6 : decode b_C_sharpAt 6 = .ok (.iload_n 1, 1) := by decide +kernel
theorem d_C_sharpAt_7 : decode b_C_sharpAt 7 = .ok (.isub, 1) := by decide +kernel
theorem d_C_sharpAt_8 : decode b_C_sharpAt 8 = .ok (.aload_n 0, 1) := by decide +kernel
theorem d_C_sharpAt_9 : decode b_C_sharpAt 9 = .ok (.iconst 0, 1) := by decide +kernel
theorem d_C_sharpAt_10 : decode b_C_sharpAt 10 = .ok (.iaload, 1) := by decide +kernel
theorem d_C_sharpAt_11 : decode b_C_sharpAt 11 = .ok (.imul, 1) := by decide +kernel
theorem d_C_sharpAt_12 : decode b_C_sharpAt 12 = .ok (.iload_n 1, 1) := by decide +kernel
theorem d_C_sharpAt_13 : decode b_C_sharpAt 13 = .ok (.aload_n 0, 1) := by decide +kernel
theorem d_C_sharpAt_14 : decode b_C_sharpAt 14 = .ok (.iconst 1, 1) := by decide +kernel
theorem d_C_sharpAt_15 : decode b_C_sharpAt 15 = .ok (.iaload, 1) := by decide +kernel
theorem d_C_sharpAt_16 : decode b_C_sharpAt 16 = .ok (.imul, 1) := by decide +kernel
theorem d_C_sharpAt_17 : decode b_C_sharpAt 17 = .ok (.iadd, 1) := by decide +kernel
theorem d_C_sharpAt_18 : decode b_C_sharpAt 18 = .ok (.goto 19, 3) := by decide +kernel
theorem d_C_sharpAt_21 : decode b_C_sharpAt 21 = .ok (.bipush 8, 2) := by decide +kernel
theorem d_C_sharpAt_23 : decode b_C_sharpAt 23 = .ok (.iload_n 1, 1) := by decide +kernel
theorem d_C_sharpAt_24 : decode b_C_sharpAt 24 = .ok (.isub, 1) := by decide +kernel
theorem d_C_sharpAt_25 : decode b_C_sharpAt 25 = .ok (.aload_n 0, 1) := by decide +kernel
theorem d_C_sharpAt_26 : decode b_C_sharpAt 26 = .ok (.iconst 1, 1) := by decide +kernel
theorem d_C_sharpAt_27 : decode b_C_sharpAt 27 = .ok (.iaload, 1) := by decide +kernel
theorem d_C_sharpAt_28 : decode b_C_sharpAt 28 = .ok (.imul, 1) := by decide +kernel
theorem d_C_sharpAt_29 : decode b_C_sharpAt 29 = .ok (.iload_n 1, 1) := by decide +kernel
theorem d_C_sharpAt_30 : decode b_C_sharpAt 30 = .ok (.iconst 4, 1) := by decide +kernel
theorem d_C_sharpAt_31 : decode b_C_sharpAt 31 = .ok (.isub, 1) := by decide +kernel
theorem d_C_sharpAt_32 : decode b_C_sharpAt 32 = .ok (.aload_n 0, 1) := by decide +kernel
theorem d_C_sharpAt_33 : decode b_C_sharpAt 33 = .ok (.iconst 3, 1) := by decide +kernel
theorem d_C_sharpAt_34 : decode b_C_sharpAt 34 = .ok (.iaload, 1) := by decide +kernel
theorem d_C_sharpAt_35 : decode b_C_sharpAt 35 = .ok (.imul, 1) := by decide +kernel
theorem d_C_sharpAt_36 : decode b_C_sharpAt 36 = .ok (.iadd, 1) := by decide +kernel
theorem d_C_sharpAt_37 : decode b_C_sharpAt 37 = .ok (.istore_n 2, 1) := by decide +kernel
theorem d_C_sharpAt_38 : decode b_C_sharpAt 38 = .ok (.sipush 128, 3) := by decide +kernel
theorem d_C_sharpAt_41 : decode b_C_sharpAt 41 = .ok (.iload_n 2, 1) := by decide +kernel
theorem d_C_sharpAt_42 : decode b_C_sharpAt 42 = .ok (.imul, 1) := by decide +kernel
theorem d_C_sharpAt_43 : decode b_C_sharpAt 43 = .ok (.ireturn, 1) := by decide +kernel
theorem d_C_placeAt_0 : decode b_C_placeAt 0 = .ok (.aload_n 0, 1) := by decide +kernel
theorem d_C_placeAt_1 : decode b_C_placeAt 1 = .ok (.aload_n 0, 1) := by decide +kernel
theorem d_C_placeAt_2 : decode b_C_placeAt 2 = .ok (.getfield 31, 3) := by decide +kernel
theorem d_C_placeAt_5 : decode b_C_placeAt 5 = .ok (.iload_n 1, 1) := by decide +kernel
theorem d_C_placeAt_6 : decode b_C_placeAt 6 = .ok (.iaload, 1) := by decide +kernel
theorem d_C_placeAt_7 : decode b_C_placeAt 7 = .ok (.aload_n 0, 1) := by decide +kernel
theorem d_C_placeAt_8 : decode b_C_placeAt 8 = .ok (.getfield 34, 3) := by decide +kernel
theorem d_C_placeAt_11 : decode b_C_placeAt 11 = .ok (.iload_n 1, 1) := by decide +kernel
theorem d_C_placeAt_12 : decode b_C_placeAt 12 = .ok (.iaload, 1) := by decide +kernel
theorem d_C_placeAt_13 : decode b_C_placeAt 13 = .ok (.aload_n 0, 1) := by decide +kernel
theorem d_C_placeAt_14 : decode b_C_placeAt 14 = .ok (.getfield 37, 3) := by decide +kernel
theorem d_C_placeAt_17 : decode b_C_placeAt 17 = .ok (.iload_n 1, 1) := by decide +kernel
theorem d_C_placeAt_18 : decode b_C_placeAt 18 = .ok (.iaload, 1) := by decide +kernel
theorem d_C_placeAt_19 : decode b_C_placeAt 19 = .ok (.invokevirtual 83, 3) := by decide +kernel
theorem d_C_placeAt_22 : decode b_C_placeAt 22 = .ok (.iload_n 3, 1) := by decide +kernel
theorem d_C_placeAt_23 : decode b_C_placeAt 23 = .ok (.ifCond .ne 10, 3) := by decide +kernel
theorem d_C_placeAt_26 : decode b_C_placeAt 26 = .ok (.aload_n 0, 1) := by decide +kernel
theorem d_C_placeAt_27 : decode b_C_placeAt 27 = .ok (.getfield 11, 3) := by decide +kernel
theorem d_C_placeAt_30 : decode b_C_placeAt 30 = .ok (.goto 7, 3) := by decide +kernel
theorem d_C_placeAt_33 : decode b_C_placeAt 33 = .ok (.aload_n 0, 1) := by decide +kernel
theorem d_C_placeAt_34 : decode b_C_placeAt 34 = .ok (.getfield 15, 3) := by decide +kernel
theorem d_C_placeAt_37 : decode b_C_placeAt 37 = .ok (.astore 4, 2) := by decide +kernel
theorem d_C_placeAt_39 : decode b_C_placeAt 39 = .ok (.aload_n 0, 1) := by decide +kernel
theorem d_C_placeAt_40 : decode b_C_placeAt 40 = .ok (.getfield 37, 3) := by decide +kernel
theorem d_C_placeAt_43 : decode b_C_placeAt 43 = .ok (.iload_n 1, 1) := by decide +kernel
theorem d_C_placeAt_44 : decode b_C_placeAt 44 = .ok (.iaload, 1) := by decide +kernel
theorem d_C_placeAt_45 : decode b_C_placeAt 45 = .ok (.ifCond .ne 12, 3) := by decide +kernel
theorem d_C_placeAt_48 : decode b_C_placeAt 48 = .ok (.aload 4, 2) := by decide +kernel
theorem d_C_placeAt_50 : decode b_C_placeAt 50 = .ok (.iload_n 2, 1) := by decide +kernel
theorem d_C_placeAt_51 : decode b_C_placeAt 51 = .ok (.invokestatic 117, 3) := by decide +kernel
theorem d_C_placeAt_54 : decode b_C_placeAt 54 = .ok (.goto 9, 3) := by decide +kernel
theorem d_C_placeAt_57 : decode b_C_placeAt 57 = .ok (.aload 4, 2) := by decide +kernel
theorem d_C_placeAt_59 : decode b_C_placeAt 59 = .ok (.iload_n 2, 1) := by decide +kernel
theorem d_C_placeAt_60 : decode b_C_placeAt 60 = .ok (.invokestatic 91, 3) := by decide +kernel
theorem d_C_placeAt_63 : decode b_C_placeAt 63 = .ok (.ireturn, 1) := by decide +kernel
theorem d_O_place_0 : decode b_O_place 0 = .ok (.aload_n 0, 1) := by decide +kernel
theorem d_O_place_1 : decode b_O_place 1 = .ok (.iload_n 1, 1) := by decide +kernel
theorem d_O_place_2 : decode b_O_place 2 = .ok (.invokevirtual 139, 3) := by decide +kernel
theorem d_O_place_5 : decode b_O_place 5 = .ok (.iload_n 2, 1) := by decide +kernel
theorem d_O_place_6 : decode b_O_place 6 = .ok (.iconst 0, 1) := by decide +kernel
theorem d_O_place_7 : decode b_O_place 7 = .ok (.bipush 8, 2) := by decide +kernel
theorem d_O_place_9 : decode b_O_place 9 = .ok (.invokestatic 55, 3) := by decide +kernel
theorem d_O_place_12 : decode b_O_place 12 = .ok (.iload_n 3, 1) := by decide +kernel
theorem d_O_place_13 : decode b_O_place 13 = .ok (.iconst 0, 1) := by decide +kernel
theorem d_O_place_14 : decode b_O_place 14 = .ok (.iconst 1, 1) := by decide +kernel
theorem d_O_place_15 : decode b_O_place 15 = .ok (.invokestatic 55, 3) := by decide +kernel
theorem d_O_place_18 : decode b_O_place 18 = .ok (.aload_n 0, 1) := by decide +kernel
theorem d_O_place_19 : decode b_O_place 19 = .ok (.getfield 45, 3) := by decide +kernel
theorem d_O_place_22 : decode b_O_place 22 = .ok (.iload_n 1, 1) := by decide +kernel
theorem d_O_place_23 : decode b_O_place 23 = .ok (.iload_n 2, 1) := by decide +kernel
theorem d_O_place_24 : decode b_O_place 24 = .ok (.iload_n 3, 1) := by decide +kernel
theorem d_O_place_25 : decode b_O_place 25 = .ok (.invokevirtual 155, 3) := by decide +kernel
theorem d_O_place_28 : decode b_O_place 28 = .ok (.ireturn, 1) := by decide +kernel
theorem d_C_isNear_0 : decode b_C_isNear 0 = .ok (.aload_n 0, 1) := by decide +kernel
theorem d_C_isNear_1 : decode b_C_isNear 1 = .ok (.aload_n 0, 1) := by decide +kernel
theorem d_C_isNear_2 : decode b_C_isNear 2 = .ok (.getfield 31, 3) := by decide +kernel
theorem d_C_isNear_5 : decode b_C_isNear 5 = .ok (.iload_n 1, 1) := by decide +kernel
theorem d_C_isNear_6 : decode b_C_isNear 6 = .ok (.iaload, 1) := by decide +kernel
theorem d_C_isNear_7 : decode b_C_isNear 7 = .ok (.aload_n 0, 1) := by decide +kernel
theorem d_C_isNear_8 : decode b_C_isNear 8 = .ok (.getfield 34, 3) := by decide +kernel
theorem d_C_isNear_11 : decode b_C_isNear 11 = .ok (.iload_n 1, 1) := by decide +kernel
theorem d_C_isNear_12 : decode b_C_isNear 12 = .ok (.iaload, 1) := by decide +kernel
theorem d_C_isNear_13 : decode b_C_isNear 13 = .ok (.aload_n 0, 1) := by decide +kernel
theorem d_C_isNear_14 : decode b_C_isNear 14 = .ok (.iload_n 1, 1) := by decide +kernel
theorem d_C_isNear_15 : decode b_C_isNear 15 = .ok (.iload_n 2, 1) := by decide +kernel
theorem d_C_isNear_16 : decode b_C_isNear 16 = .ok (.iconst 0, 1) := by decide +kernel
theorem d_C_isNear_17 : decode b_C_isNear 17 = .ok (.invokevirtual 120, 3) := by decide +kernel
theorem d_C_isNear_20 : decode b_C_isNear 20 = .ok (.aload_n 0, 1) := by decide +kernel
theorem d_C_isNear_21 : decode b_C_isNear 21 = .ok (.iload_n 1, 1) := by decide +kernel
theorem d_C_isNear_22 : decode b_C_isNear 22 = .ok (.iload_n 2, 1) := by decide +kernel
theorem d_C_isNear_23 : decode b_C_isNear 23 = .ok (.iconst 1, 1) := by decide +kernel
theorem d_C_isNear_24 : decode b_C_isNear 24 = .ok (.invokevirtual 120, 3) := by decide +kernel
theorem d_C_isNear_27 : decode b_C_isNear 27 = .ok (.iload_n 3, 1) := by decide +kernel
theorem d_C_isNear_28 : decode b_C_isNear 28 = .ok (.invokevirtual 95, 3) := by decide +kernel
theorem d_C_isNear_31 : decode b_C_isNear 31 = .ok (.ireturn, 1) := by decide +kernel
theorem d_O_near_0 : decode b_O_near 0 = .ok (.aload_n 0, 1) := by decide +kernel
theorem d_O_near_1 : decode b_O_near 1 = .ok (.iload_n 1, 1) := by decide +kernel
theorem d_O_near_2 : decode b_O_near 2 = .ok (.invokevirtual 139, 3) := by decide +kernel
theorem d_O_near_5 : decode b_O_near 5 = .ok (.iload_n 2, 1) := by decide +kernel
theorem d_O_near_6 : decode b_O_near 6 = .ok (.iconst 0, 1) := by decide +kernel
theorem d_O_near_7 : decode b_O_near 7 = .ok (.bipush 8, 2) := by decide +kernel
theorem d_O_near_9 : decode b_O_near 9 = .ok (.invokestatic 55, 3) := by decide +kernel
theorem d_O_near_12 : decode b_O_near 12 = .ok (.iload_n 3, 1) := by decide +kernel
theorem d_O_near_13 : decode b_O_near 13 = .ok (.iconst 0, 1) := by decide +kernel
theorem d_O_near_14 : decode b_O_near 14 = .ok (.bipush 64, 2) := by decide +kernel
theorem d_O_near_16 : decode b_O_near 16 = .ok (.invokestatic 55, 3) := by decide +kernel
theorem d_O_near_19 : decode b_O_near 19 = .ok (.aload_n 0, 1) := by decide +kernel
theorem d_O_near_20 : decode b_O_near 20 = .ok (.getfield 45, 3) := by decide +kernel
theorem d_O_near_23 : decode b_O_near 23 = .ok (.iload_n 1, 1) := by decide +kernel
theorem d_O_near_24 : decode b_O_near 24 = .ok (.iload_n 2, 1) := by decide +kernel
theorem d_O_near_25 : decode b_O_near 25 = .ok (.iload_n 3, 1) := by decide +kernel
theorem d_O_near_26 : decode b_O_near 26 = .ok (.invokevirtual 159, 3) := by decide +kernel
theorem d_O_near_29 : decode b_O_near 29 = .ok (.ireturn, 1) := by decide +kernel
theorem d_P_coloured_0 : decode b_P_coloured 0 = .ok (.iconst 0, 1) := by decide +kernel
theorem d_P_coloured_1 : decode b_P_coloured 1 = .ok (.istore_n 1, 1) := by decide +kernel
theorem d_P_coloured_2 : decode b_P_coloured 2 = .ok (.iconst 0, 1) := by decide +kernel
theorem d_P_coloured_3 : decode b_P_coloured 3 = .ok (.istore_n 2, 1) := by decide +kernel
theorem d_P_coloured_4 : decode b_P_coloured 4 = .ok (.iload_n 2, 1) := by decide +kernel
theorem d_P_coloured_5 : decode b_P_coloured 5 = .ok (.aload_n 0, 1) := by decide +kernel
theorem d_P_coloured_6 : decode b_P_coloured 6 = .ok (.getfield 25, 3) := by decide +kernel
theorem d_P_coloured_9 : decode b_P_coloured 9 = .ok (.arraylength, 1) := by decide +kernel
theorem d_P_coloured_10 : decode b_P_coloured 10 = .ok (.if_icmp .ge 21, 3) := by decide +kernel
theorem d_P_coloured_13 : decode b_P_coloured 13 = .ok (.aload_n 0, 1) := by decide +kernel
theorem d_P_coloured_14 : decode b_P_coloured 14 = .ok (.getfield 25, 3) := by decide +kernel
theorem d_P_coloured_17 : decode b_P_coloured 17 = .ok (.iload_n 2, 1) := by decide +kernel
theorem d_P_coloured_18 : decode b_P_coloured 18 = .ok (.baload, 1) := by decide +kernel
theorem d_P_coloured_19 : decode b_P_coloured 19 = .ok (.ifCond .le 6, 3) := by decide +kernel
theorem d_P_coloured_22 : decode b_P_coloured 22 = .ok (.iinc 1 1, 3) := by decide +kernel
theorem d_P_coloured_25 : decode b_P_coloured 25 = .ok (.iinc 2 1, 3) := by decide +kernel
theorem d_P_coloured_28 : decode b_P_coloured 28 = .ok (.goto (-24), 3) := by decide +kernel
theorem d_P_coloured_31 : decode b_P_coloured 31 = .ok (.iload_n 1, 1) := by decide +kernel
theorem d_P_coloured_32 : decode b_P_coloured 32 = .ok (.ireturn, 1) := by decide +kernel
theorem d_O_told_0 : decode b_O_told 0 = .ok (.iload_n 1, 1) := by decide +kernel
theorem d_O_told_1 : decode b_O_told 1 = .ok (.tableswitch 99 0 6 #[43, 51, 59, 67, 75, 83, 91], 43) := by decide +kernel
theorem d_O_told_44 : decode b_O_told 44 = .ok (.aload_n 0, 1) := by decide +kernel
theorem d_O_told_45 : decode b_O_told 45 = .ok (.getfield 12, 3) := by decide +kernel
theorem d_O_told_48 : decode b_O_told 48 = .ok (.getfield 163, 3) := by decide +kernel
theorem d_O_told_51 : decode b_O_told 51 = .ok (.ireturn, 1) := by decide +kernel
theorem d_O_told_52 : decode b_O_told 52 = .ok (.aload_n 0, 1) := by decide +kernel
theorem d_O_told_53 : decode b_O_told 53 = .ok (.getfield 12, 3) := by decide +kernel
theorem d_O_told_56 : decode b_O_told 56 = .ok (.getfield 166, 3) := by decide +kernel
theorem d_O_told_59 : decode b_O_told 59 = .ok (.ireturn, 1) := by decide +kernel
theorem d_O_told_60 : decode b_O_told 60 = .ok (.aload_n 0, 1) := by decide +kernel
theorem d_O_told_61 : decode b_O_told 61 = .ok (.getfield 12, 3) := by decide +kernel
theorem d_O_told_64 : decode b_O_told 64 = .ok (.invokevirtual 169, 3) := by decide +kernel
theorem d_O_told_67 : decode b_O_told 67 = .ok (.ireturn, 1) := by decide +kernel
theorem d_O_told_68 : decode b_O_told 68 = .ok (.aload_n 0, 1) := by decide +kernel
theorem d_O_told_69 : decode b_O_told 69 = .ok (.getfield 23, 3) := by decide +kernel
theorem d_O_told_72 : decode b_O_told 72 = .ok (.getfield 69, 3) := by decide +kernel
theorem d_O_told_75 : decode b_O_told 75 = .ok (.ireturn, 1) := by decide +kernel
theorem d_O_told_76 : decode b_O_told 76 = .ok (.aload_n 0, 1) := by decide +kernel
theorem d_O_told_77 : decode b_O_told 77 = .ok (.getfield 36, 3) := by decide +kernel
theorem d_O_told_80 : decode b_O_told 80 = .ok (.getfield 122, 3) := by decide +kernel
theorem d_O_told_83 : decode b_O_told 83 = .ok (.ireturn, 1) := by decide +kernel
theorem d_O_told_84 : decode b_O_told 84 = .ok (.aload_n 0, 1) := by decide +kernel
theorem d_O_told_85 : decode b_O_told 85 = .ok (.getfield 36, 3) := by decide +kernel
theorem d_O_told_88 : decode b_O_told 88 = .ok (.getfield 172, 3) := by decide +kernel
theorem d_O_told_91 : decode b_O_told 91 = .ok (.ireturn, 1) := by decide +kernel
theorem d_O_told_92 : decode b_O_told 92 = .ok (.aload_n 0, 1) := by decide +kernel
theorem d_O_told_93 : decode b_O_told 93 = .ok (.getfield 45, 3) := by decide +kernel
theorem d_O_told_96 : decode b_O_told 96 = .ok (.getfield 175, 3) := by decide +kernel
theorem d_O_told_99 : decode b_O_told 99 = .ok (.ireturn, 1) := by decide +kernel
theorem d_O_told_100 : decode b_O_told 100 = .ok (.iconst (-1), 1) := by decide +kernel
theorem d_O_told_101 : decode b_O_told 101 = .ok (.ireturn, 1) := by decide +kernel
theorem d_P_wipe_0 : decode b_P_wipe 0 = .ok (.aload_n 0, 1) := by decide +kernel
theorem d_P_wipe_1 : decode b_P_wipe 1 = .ok (.getfield 25, 3) := by decide +kernel
theorem d_P_wipe_4 : decode b_P_wipe 4 = .ok (.iconst 0, 1) := by decide +kernel
theorem d_P_wipe_5 : decode b_P_wipe 5 = .ok (.invokestatic 33, 3) := by decide +kernel
theorem d_P_wipe_8 : decode b_P_wipe 8 = .ok (.return_, 1) := by decide +kernel
theorem d_O_clear_0 : decode b_O_clear 0 = .ok (.aload_n 0, 1) := by decide +kernel
theorem d_O_clear_1 : decode b_O_clear 1 = .ok (.getfield 12, 3) := by decide +kernel
theorem d_O_clear_4 : decode b_O_clear 4 = .ok (.invokevirtual 176, 3) := by decide +kernel
theorem d_O_clear_7 : decode b_O_clear 7 = .ok (.aload_n 0, 1) := by decide +kernel
theorem d_O_clear_8 : decode b_O_clear 8 = .ok (.invokevirtual 63, 3) := by decide +kernel
theorem d_O_clear_11 : decode b_O_clear 11 = .ok (.return_, 1) := by decide +kernel
theorem d_P_sides_0 : decode b_P_sides 0 = .ok (.aload_n 0, 1) := by decide +kernel
theorem d_P_sides_1 : decode b_P_sides 1 = .ok (.getfield 18, 3) := by decide +kernel
theorem d_P_sides_4 : decode b_P_sides 4 = .ok (.aload_n 0, 1) := by decide +kernel
theorem d_P_sides_5 : decode b_P_sides 5 = .ok (.getfield 22, 3) := by decide +kernel
theorem d_P_sides_8 : decode b_P_sides 8 = .ok (.iconst 1, 1) := by decide +kernel
theorem d_P_sides_9 : decode b_P_sides 9 = .ok (.iadd, 1) := by decide +kernel
theorem d_P_sides_10 : decode b_P_sides 10 = .ok (.imul, 1) := by decide +kernel
theorem d_P_sides_11 : decode b_P_sides 11 = .ok (.aload_n 0, 1) := by decide +kernel
theorem d_P_sides_12 : decode b_P_sides 12 = .ok (.getfield 22, 3) := by decide +kernel
theorem d_P_sides_15 : decode b_P_sides 15 = .ok (.aload_n 0, 1) := by decide +kernel
theorem d_P_sides_16 : decode b_P_sides 16 = .ok (.getfield 18, 3) := by decide +kernel
theorem d_P_sides_19 : decode b_P_sides 19 = .ok (.iconst 1, 1) := by decide +kernel
theorem d_P_sides_20 : decode b_P_sides 20 = .ok (.iadd, 1) := by decide +kernel
theorem d_P_sides_21 : decode b_P_sides 21 = .ok (.imul, 1) := by decide +kernel
theorem d_P_sides_22 : decode b_P_sides 22 = .ok (.iadd, 1) := by decide +kernel
theorem d_P_sides_23 : decode b_P_sides 23 = .ok (.ireturn, 1) := by decide +kernel
theorem d_M_thrown_0 : decode b_M_thrown 0 = .ok (.aload_n 0, 1) := by decide +kernel
theorem d_M_thrown_1 : decode b_M_thrown 1 = .ok (.getfield 72, 3) := by decide +kernel
theorem d_M_thrown_4 : decode b_M_thrown 4 = .ok (.ireturn, 1) := by decide +kernel
theorem d_M_refuses_0 : decode b_M_refuses 0 = .ok (.aload_n 0, 1) := by decide +kernel
theorem d_M_refuses_1 : decode b_M_refuses 1 = .ok (.iload_n 1, 1) := by decide +kernel
theorem d_M_refuses_2 : decode b_M_refuses 2 = .ok (.putfield 72, 3) := by decide +kernel
theorem d_M_refuses_5 : decode b_M_refuses 5 = .ok (.iload_n 1, 1) := by decide +kernel
theorem d_M_refuses_6 : decode b_M_refuses 6 = .ok (.ifCond .le 7, 3) := by decide +kernel
theorem d_M_refuses_9 : decode b_M_refuses 9 = .ok (.iconst 1, 1) := by decide +kernel
theorem d_M_refuses_10 : decode b_M_refuses 10 = .ok (.goto 4, 3) := by decide +kernel
theorem d_M_refuses_13 : decode b_M_refuses 13 = .ok (.iconst 0, 1) := by decide +kernel
theorem d_M_refuses_14 : decode b_M_refuses 14 = .ok (.ireturn, 1) := by decide +kernel
theorem d_M_in_0 : decode b_M_in 0 = .ok (.iload_n 0, 1) := by decide +kernel
theorem d_M_in_1 : decode b_M_in 1 = .ok (.iload_n 1, 1) := by decide +kernel
theorem d_M_in_2 : decode b_M_in 2 = .ok (.if_icmp .lt 12, 3) := by decide +kernel
theorem d_M_in_5 : decode b_M_in 5 = .ok (.iload_n 0, 1) := by decide +kernel
theorem d_M_in_6 : decode b_M_in 6 = .ok (.iload_n 2, 1) := by decide +kernel
theorem d_M_in_7 : decode b_M_in 7 = .ok (.if_icmp .gt 7, 3) := by decide +kernel
theorem d_M_in_10 : decode b_M_in 10 = .ok (.iconst 1, 1) := by decide +kernel
theorem d_M_in_11 : decode b_M_in 11 = .ok (.goto 4, 3) := by decide +kernel
theorem d_M_in_14 : decode b_M_in 14 = .ok (.iconst 0, 1) := by decide +kernel
theorem d_M_in_15 : decode b_M_in 15 = .ok (.ireturn, 1) := by decide +kernel
theorem d_M_isSample_0 : decode b_M_isSample 0 = .ok (.iload_n 1, 1) := by decide +kernel
theorem d_M_isSample_1 : decode b_M_isSample 1 = .ok (.iconst 0, 1) := by decide +kernel
theorem d_M_isSample_2 : decode b_M_isSample 2 = .ok (.aload_n 0, 1) := by decide +kernel
theorem d_M_isSample_3 : decode b_M_isSample 3 = .ok (.getfield 65, 3) := by decide +kernel
theorem d_M_isSample_6 : decode b_M_isSample 6 = .ok (.iconst 1, 1) := by decide +kernel
theorem d_M_isSample_7 : decode b_M_isSample 7 = .ok (.isub, 1) := by decide +kernel
theorem d_M_isSample_8 : decode b_M_isSample 8 = .ok (.invokestatic 75, 3) := by decide +kernel
theorem d_M_isSample_11 : decode b_M_isSample 11 = .ok (.ifCond .eq 21, 3) := by decide +kernel
theorem d_M_isSample_14 : decode b_M_isSample 14 = .ok (.iload_n 2, 1) := by decide +kernel
theorem d_M_isSample_15 : decode b_M_isSample 15 = .ok (.iconst 0, 1) := by decide +kernel
theorem d_M_isSample_16 : decode b_M_isSample 16 = .ok (.aload_n 0, 1) := by decide +kernel
theorem d_M_isSample_17 : decode b_M_isSample 17 = .ok (.getfield 69, 3) := by decide +kernel
theorem d_M_isSample_20 : decode b_M_isSample 20 = .ok (.iconst 1, 1) := by decide +kernel
theorem d_M_isSample_21 : decode b_M_isSample 21 = .ok (.isub, 1) := by decide +kernel
theorem d_M_isSample_22 : decode b_M_isSample 22 = .ok (.invokestatic 75, 3) := by decide +kernel
theorem d_M_isSample_25 : decode b_M_isSample 25 = .ok (.ifCond .eq 7, 3) := by decide +kernel
theorem d_M_isSample_28 : decode b_M_isSample 28 = .ok (.iconst 1, 1) := by decide +kernel
theorem d_M_isSample_29 : decode b_M_isSample 29 = .ok (.goto 4, 3) := by decide +kernel
theorem d_M_isSample_32 : decode b_M_isSample 32 = .ok (.iconst 0, 1) := by decide +kernel
theorem d_M_isSample_33 : decode b_M_isSample 33 = .ok (.ireturn, 1) := by decide +kernel
theorem d_M_forget_0 : decode b_M_forget 0 = .ok (.aload_n 0, 1) := by decide +kernel
theorem d_M_forget_1 : decode b_M_forget 1 = .ok (.iconst 0, 1) := by decide +kernel
theorem d_M_forget_2 : decode b_M_forget 2 = .ok (.putfield 79, 3) := by decide +kernel
theorem d_M_forget_5 : decode b_M_forget 5 = .ok (.aload_n 0, 1) := by decide +kernel
theorem d_M_forget_6 : decode b_M_forget 6 = .ok (.iconst 0, 1) := by decide +kernel
theorem d_M_forget_7 : decode b_M_forget 7 = .ok (.putfield 83, 3) := by decide +kernel
theorem d_M_forget_10 : decode b_M_forget 10 = .ok (.aload_n 0, 1) := by decide +kernel
theorem d_M_forget_11 : decode b_M_forget 11 = .ok (.iconst 0, 1) := by decide +kernel
theorem d_M_forget_12 : decode b_M_forget 12 = .ok (.putfield 86, 3) := by decide +kernel
theorem d_M_forget_15 : decode b_M_forget 15 = .ok (.aload_n 0, 1) := by decide +kernel
theorem d_M_forget_16 : decode b_M_forget 16 = .ok (.iconst 0, 1) := by decide +kernel
theorem d_M_forget_17 : decode b_M_forget 17 = .ok (.putfield 89, 3) := by decide +kernel
theorem d_M_forget_20 : decode b_M_forget 20 = .ok (.return_, 1) := by decide +kernel
theorem d_M_put_0 : decode b_M_put 0 = .ok (.aload_n 0, 1) := by decide +kernel
theorem d_M_put_1 : decode b_M_put 1 = .ok (.aload_n 0, 1) := by decide +kernel
theorem d_M_put_2 : decode b_M_put 2 = .ok (.iload_n 1, 1) := by decide +kernel
theorem d_M_put_3 : decode b_M_put 3 = .ok (.iload_n 2, 1) := by decide +kernel
theorem d_M_put_4 : decode b_M_put 4 = .ok (.invokevirtual 92, 3) := by decide +kernel
theorem d_M_put_7 : decode b_M_put 7 = .ok (.ifCond .ne 7, 3) := by decide +kernel
theorem d_M_put_10 : decode b_M_put 10 = .ok (.iconst 1, 1) := by decide +kernel
theorem d_M_put_11 : decode b_M_put 11 = .ok (.goto 24, 3) := by decide +kernel
theorem d_M_put_14 : decode b_M_put 14 = .ok (.iload_n 3, 1) := by decide +kernel
theorem d_M_put_15 : decode b_M_put 15 = .ok (.iconst 1, 1) := by decide +kernel
theorem d_M_put_16 : decode b_M_put 16 = .ok (.if_icmp .lt 14, 3) := by decide +kernel
theorem d_M_put_19 : decode b_M_put 19 = .ok (.iload 4, 2) := by decide +kernel
theorem d_M_put_21 : decode b_M_put 21 = .ok (.iconst 0, 1) := by decide +kernel
theorem d_M_put_22 : decode b_M_put 22 = .ok (.bipush 7, 2) := by decide +kernel
theorem d_M_put_24 : decode b_M_put 24 = .ok (.invokestatic 75, 3) := by decide +kernel
theorem d_M_put_27 : decode b_M_put 27 = .ok (.ifCond .ne 7, 3) := by decide +kernel
theorem d_M_put_30 : decode b_M_put 30 = .ok (.iconst 2, 1) := by decide +kernel
theorem d_M_put_31 : decode b_M_put 31 = .ok (.goto 4, 3) := by decide +kernel
theorem d_M_put_34 : decode b_M_put 34 = .ok (.iconst 0, 1) := by decide +kernel
theorem d_M_put_35 : decode b_M_put 35 = .ok (.invokevirtual 96, 3) := by decide +kernel
theorem d_M_put_38 : decode b_M_put 38 = .ok (.ifCond .eq 5, 3) := by decide +kernel
theorem d_M_put_41 : decode b_M_put 41 = .ok (.iconst 0, 1) := by decide +kernel
theorem d_M_put_42 : decode b_M_put 42 = .ok (.ireturn, 1) := by decide +kernel
theorem d_M_put_43 : decode b_M_put 43 = .ok (.iconst 0, 1) := by decide +kernel
theorem d_M_put_44 : decode b_M_put 44 = .ok (.istore 5, 2) := by decide +kernel
theorem d_M_put_46 : decode b_M_put 46 = .ok (.iload_n 1, 1) := by decide +kernel
theorem d_M_put_47 : decode b_M_put 47 = .ok (.istore 6, 2) := by decide +kernel
theorem d_M_put_49 : decode b_M_put 49 = .ok (.iload 6, 2) := by decide +kernel
theorem d_M_put_51 : decode b_M_put 51 = .ok (.aload_n 0, 1) := by decide +kernel
theorem d_M_put_52 : decode b_M_put 52 = .ok (.getfield 65, 3) := by decide +kernel
theorem d_M_put_55 : decode b_M_put 55 = .ok (.if_icmp .ge 58, 3) := by decide +kernel
theorem d_M_put_58 : decode b_M_put 58 = .ok (.iload 6, 2) := by decide +kernel
theorem d_M_put_60 : decode b_M_put 60 = .ok (.iload_n 1, 1) := by decide +kernel
theorem d_M_put_61 : decode b_M_put 61 = .ok (.isub, 1) := by decide +kernel
theorem d_M_put_62 : decode b_M_put 62 = .ok (.iload_n 3, 1) := by decide +kernel
theorem d_M_put_63 : decode b_M_put 63 = .ok (.if_icmp .ge 50, 3) := by decide +kernel
theorem d_M_put_66 : decode b_M_put 66 = .ok (.iload 5, 2) := by decide +kernel
theorem d_M_put_68 : decode b_M_put 68 = .ok (.aload_n 0, 1) := by decide +kernel
theorem d_M_put_69 : decode b_M_put 69 = .ok (.getfield 7, 3) := by decide +kernel
theorem d_M_put_72 : decode b_M_put 72 = .ok (.bipush 16, 2) := by decide +kernel
theorem d_M_put_74 : decode b_M_put 74 = .ok (.iload_n 2, 1) := by decide +kernel
theorem d_M_put_75 : decode b_M_put 75 = .ok (.imul, 1) := by decide +kernel
theorem d_M_put_76 : decode b_M_put 76 = .ok (.iload 6, 2) := by decide +kernel
theorem d_M_put_78 : decode b_M_put 78 = .ok (.iadd, 1) := by decide +kernel
theorem d_M_put_79 : decode b_M_put 79 = .ok (.iaload, 1) := by decide +kernel
theorem d_M_put_80 : decode b_M_put 80 = .ok (.iload 4, 2) := by decide +kernel
theorem d_M_put_82 : decode b_M_put 82 = .ok (.if_icmp .eq 7, 3) := by decide +kernel
theorem d_M_put_85 : decode b_M_put 85 = .ok (.iconst 1, 1) := by decide +kernel
theorem d_M_put_86 : decode b_M_put 86 = .ok (.goto 4, 3) := by decide +kernel
theorem d_M_put_89 : decode b_M_put 89 = .ok (.iconst 0, 1) := by decide +kernel
theorem d_M_put_90 : decode b_M_put 90 = .ok (.iadd, 1) := by decide +kernel
theorem d_M_put_91 : decode b_M_put 91 = .ok (.istore 5, 2) := by decide +kernel
theorem d_M_put_93 : decode b_M_put 93 = .ok (.aload_n 0, 1) := by decide +kernel
theorem d_M_put_94 : decode b_M_put 94 = .ok (.getfield 7, 3) := by decide +kernel
theorem d_M_put_97 : decode b_M_put 97 = .ok (.bipush 16, 2) := by decide +kernel
theorem d_M_put_99 : decode b_M_put 99 = .ok (.iload_n 2, 1) := by decide +kernel
theorem d_M_put_100 : decode b_M_put 100 = .ok (.imul, 1) := by decide +kernel
theorem d_M_put_101 : decode b_M_put 101 = .ok (.iload 6, 2) := by decide +kernel
theorem d_M_put_103 : decode b_M_put 103 = .ok (.iadd, 1) := by decide +kernel
theorem d_M_put_104 : decode b_M_put 104 = .ok (.iload 4, 2) := by decide +kernel
theorem d_M_put_106 : decode b_M_put 106 = .ok (.iastore, 1) := by decide +kernel
theorem d_M_put_107 : decode b_M_put 107 = .ok (.iinc 6 1, 3) := by decide +kernel
theorem d_M_put_110 : decode b_M_put 110 = .ok (.goto (-61), 3) := by decide +kernel
theorem d_M_put_113 : decode b_M_put 113 = .ok (.iload 5, 2) := by decide +kernel
theorem d_M_put_115 : decode b_M_put 115 = .ok (.ifCond .le 7, 3) := by decide +kernel
theorem d_M_put_118 : decode b_M_put 118 = .ok (.aload_n 0, 1) := by decide +kernel
theorem d_M_put_119 : decode b_M_put 119 = .ok (.invokevirtual 100, 3) := by decide +kernel
theorem d_M_put_122 : decode b_M_put 122 = .ok (.iload 5, 2) := by decide +kernel
theorem d_M_put_124 : decode b_M_put 124 = .ok (.ireturn, 1) := by decide +kernel
theorem d_M_isInside_0 : decode b_M_isInside 0 = .ok (.aload_n 0, 1) := by decide +kernel
theorem d_M_isInside_1 : decode b_M_isInside 1 = .ok (.iload_n 2, 1) := by decide +kernel
theorem d_M_isInside_2 : decode b_M_isInside 2 = .ok (.iload_n 3, 1) := by decide +kernel
theorem d_M_isInside_3 : decode b_M_isInside 3 = .ok (.invokevirtual 92, 3) := by decide +kernel
theorem d_M_isInside_6 : decode b_M_isInside 6 = .ok (.ifCond .eq 22, 3) := by decide +kernel
theorem d_M_isInside_9 : decode b_M_isInside 9 = .ok (.aload_n 0, 1) := by decide +kernel
theorem d_M_isInside_10 : decode b_M_isInside 10 = .ok (.getfield 7, 3) := by decide +kernel
theorem d_M_isInside_13 : decode b_M_isInside 13 = .ok (.bipush 16, 2) := by decide +kernel
theorem d_M_isInside_15 : decode b_M_isInside 15 = .ok (.iload_n 3, 1) := by decide +kernel
theorem d_M_isInside_16 : decode b_M_isInside 16 = .ok (.imul, 1) := by decide +kernel
theorem d_M_isInside_17 : decode b_M_isInside 17 = .ok (.iload_n 2, 1) := by decide +kernel
theorem d_M_isInside_18 : decode b_M_isInside 18 = .ok (.iadd, 1) := by decide +kernel
theorem d_M_isInside_19 : decode b_M_isInside 19 = .ok (.iaload, 1) := by decide +kernel
theorem d_M_isInside_20 : decode b_M_isInside 20 = .ok (.iload_n 1, 1) := by decide +kernel
theorem d_M_isInside_21 : decode b_M_isInside 21 = .ok (.if_icmp .lt 7, 3) := by decide +kernel
theorem d_M_isInside_24 : decode b_M_isInside 24 = .ok (.iconst 1, 1) := by decide +kernel
theorem d_M_isInside_25 : decode b_M_isInside 25 = .ok (.goto 4, 3) := by decide +kernel
theorem d_M_isInside_28 : decode b_M_isInside 28 = .ok (.iconst 0, 1) := by decide +kernel
theorem d_M_isInside_29 : decode b_M_isInside 29 = .ok (.ireturn, 1) := by decide +kernel
theorem d_M_stepX_0 : decode b_M_stepX 0 = .ok (.iload_n 0, 1) := by decide +kernel
theorem d_M_stepX_1 : decode b_M_stepX 1 = .ok (.ifCond .ne 7, 3) := by decide +kernel
theorem d_M_stepX_4 : decode b_M_stepX 4 = .ok (.iconst 1, 1) := by decide +kernel
theorem d_M_stepX_5 : decode b_M_stepX 5 = .ok (.goto 13, 3) := by decide +kernel
theorem d_M_stepX_8 : decode b_M_stepX 8 = .ok (.iload_n 0, 1) := by decide +kernel
theorem d_M_stepX_9 : decode b_M_stepX 9 = .ok (.iconst 2, 1) := by decide +kernel
theorem d_M_stepX_10 : decode b_M_stepX 10 = .ok (.if_icmp .ne 7, 3) := by decide +kernel
theorem d_M_stepX_13 : decode b_M_stepX 13 = .ok (.iconst (-1), 1) := by decide +kernel
theorem d_M_stepX_14 : decode b_M_stepX 14 = .ok (.goto 4, 3) := by decide +kernel
theorem d_M_stepX_17 : decode b_M_stepX 17 = .ok (.iconst 0, 1) := by decide +kernel
theorem d_M_stepX_18 : decode b_M_stepX 18 = .ok (.ireturn, 1) := by decide +kernel
theorem d_M_stepY_0 : decode b_M_stepY 0 = .ok (.iload_n 0, 1) := by decide +kernel
theorem d_M_stepY_1 : decode b_M_stepY 1 = .ok (.iconst 1, 1) := by decide +kernel
theorem d_M_stepY_2 : decode b_M_stepY 2 = .ok (.if_icmp .ne 7, 3) := by decide +kernel
theorem d_M_stepY_5 : decode b_M_stepY 5 = .ok (.iconst 1, 1) := by decide +kernel
theorem d_M_stepY_6 : decode b_M_stepY 6 = .ok (.goto 13, 3) := by decide +kernel
theorem d_M_stepY_9 : decode b_M_stepY 9 = .ok (.iload_n 0, 1) := by decide +kernel
theorem d_M_stepY_10 : decode b_M_stepY 10 = .ok (.iconst 3, 1) := by decide +kernel
theorem d_M_stepY_11 : decode b_M_stepY 11 = .ok (.if_icmp .ne 7, 3) := by decide +kernel
theorem d_M_stepY_14 : decode b_M_stepY 14 = .ok (.iconst (-1), 1) := by decide +kernel
theorem d_M_stepY_15 : decode b_M_stepY 15 = .ok (.goto 4, 3) := by decide +kernel
theorem d_M_stepY_18 : decode b_M_stepY 18 = .ok (.iconst 0, 1) := by decide +kernel
theorem d_M_stepY_19 : decode b_M_stepY 19 = .ok (.ireturn, 1) := by decide +kernel
theorem d_M_ahead_0 : decode b_M_ahead 0 = .ok (.iload 4, 2) := by decide +kernel
theorem d_M_ahead_2 : decode b_M_ahead 2 = .ok (.ifCond .ne 7, 3) := by decide +kernel
theorem d_M_ahead_5 : decode b_M_ahead 5 = .ok (.iload_n 2, 1) := by decide +kernel
theorem d_M_ahead_6 : decode b_M_ahead 6 = .ok (.goto 38, 3) := by decide +kernel
theorem d_M_ahead_9 : decode b_M_ahead 9 = .ok (.iload 4, 2) := by decide +kernel
theorem d_M_ahead_11 : decode b_M_ahead 11 = .ok (.iconst 2, 1) := by decide +kernel
theorem d_M_ahead_12 : decode b_M_ahead 12 = .ok (.if_icmp .ne 9, 3) := by decide +kernel
theorem d_M_ahead_15 : decode b_M_ahead 15 = .ok (.iload_n 2, 1) := by decide +kernel
theorem d_M_ahead_16 : decode b_M_ahead 16 = .ok (.iconst 1, 1) := by decide +kernel
theorem d_M_ahead_17 : decode b_M_ahead 17 = .ok (.isub, 1) := by decide +kernel
theorem d_M_ahead_18 : decode b_M_ahead 18 = .ok (.goto 26, 3) := by decide +kernel
theorem d_M_ahead_21 : decode b_M_ahead 21 = .ok (.iload 4, 2) := by decide +kernel
theorem d_M_ahead_23 : decode b_M_ahead 23 = .ok (.iconst 1, 1) := by decide +kernel
theorem d_M_ahead_24 : decode b_M_ahead 24 = .ok (.if_icmp .ne 7, 3) := by decide +kernel
theorem d_M_ahead_27 : decode b_M_ahead 27 = .ok (.iconst 1, 1) := by decide +kernel
theorem d_M_ahead_28 : decode b_M_ahead 28 = .ok (.goto 4, 3) := by decide +kernel
theorem d_M_ahead_31 : decode b_M_ahead 31 = .ok (.iconst 0, 1) := by decide +kernel
theorem d_M_ahead_32 : decode b_M_ahead 32 = .ok (.iload 5, 2) := by decide +kernel
theorem d_M_ahead_34 : decode b_M_ahead 34 = .ok (.if_icmp .ne 9, 3) := by decide +kernel
theorem d_M_ahead_37 : decode b_M_ahead 37 = .ok (.iload_n 2, 1) := by decide +kernel
theorem d_M_ahead_38 : decode b_M_ahead 38 = .ok (.iconst 1, 1) := by decide +kernel
theorem d_M_ahead_39 : decode b_M_ahead 39 = .ok (.isub, 1) := by decide +kernel
theorem d_M_ahead_40 : decode b_M_ahead 40 = .ok (.goto 4, 3) := by decide +kernel
theorem d_M_ahead_43 : decode b_M_ahead 43 = .ok (.iload_n 2, 1) := by decide +kernel
theorem d_M_ahead_44 : decode b_M_ahead 44 = .ok (.istore 6, 2) := by decide +kernel
theorem d_M_ahead_46 : decode b_M_ahead 46 = .ok (.iload 4, 2) := by decide +kernel
theorem d_M_ahead_48 : decode b_M_ahead 48 = .ok (.iconst 1, 1) := by decide +kernel
theorem d_M_ahead_49 : decode b_M_ahead 49 = .ok (.if_icmp .ne 7, 3) := by decide +kernel
theorem d_M_ahead_52 : decode b_M_ahead 52 = .ok (.iload_n 3, 1) := by decide +kernel
theorem d_M_ahead_53 : decode b_M_ahead 53 = .ok (.goto 37, 3) := by decide +kernel
theorem d_M_ahead_56 : decode b_M_ahead 56 = .ok (.iload 4, 2) := by decide +kernel
theorem d_M_ahead_58 : decode b_M_ahead 58 = .ok (.iconst 3, 1) := by decide +kernel
theorem d_M_ahead_59 : decode b_M_ahead 59 = .ok (.if_icmp .ne 9, 3) := by decide +kernel
theorem d_M_ahead_62 : decode b_M_ahead 62 = .ok (.iload_n 3, 1) := by decide +kernel
theorem d_M_ahead_63 : decode b_M_ahead 63 = .ok (.iconst 1, 1) := by decide +kernel
theorem d_M_ahead_64 : decode b_M_ahead 64 = .ok (.isub, 1) := by decide +kernel
theorem d_M_ahead_65 : decode b_M_ahead 65 = .ok (.goto 25, 3) := by decide +kernel
theorem d_M_ahead_68 : decode b_M_ahead 68 = .ok (.iload 4, 2) := by decide +kernel
theorem d_M_ahead_70 : decode b_M_ahead 70 = .ok (.ifCond .ne 7, 3) := by decide +kernel
theorem d_M_ahead_73 : decode b_M_ahead 73 = .ok (.iconst 1, 1) := by decide +kernel
theorem d_M_ahead_74 : decode b_M_ahead 74 = .ok (.goto 4, 3) := by decide +kernel
theorem d_M_ahead_77 : decode b_M_ahead 77 = .ok (.iconst 0, 1) := by decide +kernel
theorem d_M_ahead_78 : decode b_M_ahead 78 = .ok (.iload 5, 2) := by decide +kernel
theorem d_M_ahead_80 : decode b_M_ahead 80 = .ok (.if_icmp .ne 7, 3) := by decide +kernel
theorem d_M_ahead_83 : decode b_M_ahead 83 = .ok (.iload_n 3, 1) := by decide +kernel
theorem d_M_ahead_84 : decode b_M_ahead 84 = .ok (.goto 6, 3) := by decide +kernel
theorem d_M_ahead_87 : decode b_M_ahead 87 = .ok (.iload_n 3, 1) := by decide +kernel
theorem d_M_ahead_88 : decode b_M_ahead 88 = .ok (.iconst 1, 1) := by decide +kernel
theorem d_M_ahead_89 : decode b_M_ahead 89 = .ok (.isub, 1) := by decide +kernel
theorem d_M_ahead_90 : decode b_M_ahead 90 = .ok (.istore 7, 2) := by decide +kernel
theorem d_M_ahead_92 : decode b_M_ahead 92 = .ok (.aload_n 0, 1) := by decide +kernel
theorem d_M_ahead_93 : decode b_M_ahead 93 = .ok (.iload_n 1, 1) := by decide +kernel
theorem d_M_ahead_94 : decode b_M_ahead 94 = .ok (.iload 6, 2) := by decide +kernel
theorem d_M_ahead_96 : decode b_M_ahead 96 = .ok (.iload 7, 2) := by decide +kernel
theorem d_M_ahead_98 : decode b_M_ahead 98 = .ok (.invokevirtual 103, 3) := by decide +kernel
theorem d_M_ahead_101 : decode b_M_ahead 101 = .ok (.ireturn, 1) := by decide +kernel
theorem d_M_turnsLeft_0 : decode b_M_turnsLeft 0 = .ok (.iload 4, 2) := by decide +kernel
theorem d_M_turnsLeft_2 : decode b_M_turnsLeft 2 = .ok (.iconst 2, 1) := by decide +kernel
theorem d_M_turnsLeft_3 : decode b_M_turnsLeft 3 = .ok (.if_icmp .ge 14, 3) := by decide +kernel
theorem d_M_turnsLeft_6 : decode b_M_turnsLeft 6 = .ok (.iload 4, 2) := by decide +kernel
theorem d_M_turnsLeft_8 : decode b_M_turnsLeft 8 = .ok (.ifCond .ne 7, 3) := by decide +kernel
theorem d_M_turnsLeft_11 : decode b_M_turnsLeft 11 = .ok (.iconst 1, 1) := by decide +kernel
theorem d_M_turnsLeft_12 : decode b_M_turnsLeft 12 = .ok (.goto 4, 3) := by decide +kernel
theorem d_M_turnsLeft_15 : decode b_M_turnsLeft 15 = .ok (.iconst 0, 1) := by decide +kernel
theorem d_M_turnsLeft_16 : decode b_M_turnsLeft 16 = .ok (.ireturn, 1) := by decide +kernel
theorem d_M_turnsLeft_17 : decode b_M_turnsLeft 17 = .ok (.iload 4, 2) := by decide +kernel
theorem d_M_turnsLeft_19 : decode b_M_turnsLeft 19 = .ok (.iconst 3, 1) := by decide +kernel
theorem d_M_turnsLeft_20 : decode b_M_turnsLeft 20 = .ok (.if_icmp .ne 17, 3) := by decide +kernel
theorem d_M_turnsLeft_23 : decode b_M_turnsLeft 23 = .ok (.iload_n 2, 1) := by decide +kernel
theorem d_M_turnsLeft_24 : decode b_M_turnsLeft 24 = .ok (.iload_n 3, 1) := by decide +kernel
theorem d_M_turnsLeft_25 : decode b_M_turnsLeft 25 = .ok (.iadd, 1) := by decide +kernel
theorem d_M_turnsLeft_26 : decode b_M_turnsLeft 26 = .ok (.iconst 2, 1) := by decide +kernel
theorem d_M_turnsLeft_27 : decode b_M_turnsLeft 27 = .ok (.irem, 1) := by decide +kernel
theorem d_M_turnsLeft_28 : decode b_M_turnsLeft 28 = .ok (.ifCond .ne 7, 3) := by decide +kernel
theorem d_M_turnsLeft_31 : decode b_M_turnsLeft 31 = .ok (.iconst 1, 1) := by decide +kernel
theorem d_M_turnsLeft_32 : decode b_M_turnsLeft 32 = .ok (.goto 4, 3) := by decide +kernel
theorem d_M_turnsLeft_35 : decode b_M_turnsLeft 35 = .ok (.iconst 0, 1) := by decide +kernel
theorem d_M_turnsLeft_36 : decode b_M_turnsLeft 36 = .ok (.ireturn, 1) := by decide +kernel
theorem d_M_turnsLeft_37 : decode b_M_turnsLeft 37 = .ok (.iconst 0, 1) := by decide +kernel
theorem d_M_turnsLeft_38 : decode b_M_turnsLeft 38 = .ok (.istore 5, 2) := by decide +kernel
theorem d_M_turnsLeft_40 : decode b_M_turnsLeft 40 = .ok (.bipush (-2), 2) := by decide +kernel
theorem d_M_turnsLeft_42 : decode b_M_turnsLeft 42 = .ok (.istore 6, 2) := by decide +kernel
theorem d_M_turnsLeft_44 : decode b_M_turnsLeft 44 = .ok (.iload 6, 2) := by decide +kernel
theorem d_M_turnsLeft_46 : decode b_M_turnsLeft 46 = .ok (.iconst 2, 1) := by decide +kernel
theorem d_M_turnsLeft_47 : decode b_M_turnsLeft 47 = .ok (.if_icmp .ge 51, 3) := by decide +kernel
theorem d_M_turnsLeft_50 : decode b_M_turnsLeft 50 = .ok (.bipush (-2), 2) := by decide +kernel
theorem d_M_turnsLeft_52 : decode b_M_turnsLeft 52 = .ok (.istore 7, 2) := by decide +kernel
theorem d_M_turnsLeft_54 : decode b_M_turnsLeft 54 = .ok (.iload 7, 2) := by decide +kernel
theorem d_M_turnsLeft_56 : decode b_M_turnsLeft 56 = .ok (.iconst 2, 1) := by decide +kernel
theorem d_M_turnsLeft_57 : decode b_M_turnsLeft 57 = .ok (.if_icmp .ge 35, 3) := by decide +kernel
