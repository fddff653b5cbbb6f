theorem d_P_has_0 : decode b_P_has 0 = .ok (.iload_n 1, 1) := by decide +kernel
theorem d_P_has_1 : decode b_P_has 1 = .ok (.ifCond .lt 27, 3) := by decide +kernel
theorem d_P_has_4 : decode b_P_has 4 = .ok (.iload_n 1, 1) := by decide +kernel
theorem d_P_has_5 : decode b_P_has 5 = .ok (.aload_n 0, 1) := by decide +kernel
theorem d_P_has_6 : decode b_P_has 6 = .ok (.getfield 18, 3) := by decide +kernel
theorem d_P_has_9 : decode b_P_has 9 = .ok (.if_icmp .ge 19, 3) := by decide +kernel
theorem d_P_has_12 : decode b_P_has 12 = .ok (.iload_n 2, 1) := by decide +kernel
theorem d_P_has_13 : decode b_P_has 13 = .ok (.ifCond .lt 15, 3) := by decide +kernel
theorem d_P_has_16 : decode b_P_has 16 = .ok (.iload_n 2, 1) := by decide +kernel
theorem d_P_has_17 : decode b_P_has 17 = .ok (.aload_n 0, 1) := by decide +kernel
theorem d_P_has_18 : decode b_P_has 18 = .ok (.getfield 22, 3) := by decide +kernel
theorem d_P_has_21 : decode b_P_has 21 = .ok (.if_icmp .ge 7, 3) := by decide +kernel
theorem d_P_has_24 : decode b_P_has 24 = .ok (.iconst 1, 1) := by decide +kernel
theorem d_P_has_25 : decode b_P_has 25 = .ok (.goto 4, 3) := by decide +kernel
theorem d_P_has_28 : decode b_P_has 28 = .ok (.iconst 0, 1) := by decide +kernel
theorem d_P_has_29 : decode b_P_has 29 = .ok (.ireturn, 1) := by decide +kernel
theorem d_P_paint_0 : decode b_P_paint 0 = .ok (.iload_n 2, 1) := by decide +kernel
theorem d_P_paint_1 : decode b_P_paint 1 = .ok (.aload_n 0, 1) := by decide +kernel
theorem d_P_paint_2 : decode b_P_paint 2 = .ok (.getfield 18, 3) := by decide +kernel
theorem d_P_paint_5 : decode b_P_paint 5 = .ok (.imul, 1) := by decide +kernel
theorem d_P_paint_6 : decode b_P_paint 6 = .ok (.iload_n 1, 1) := by decide +kernel
theorem d_P_paint_7 : decode b_P_paint 7 = .ok (.iadd, 1) := by decide +kernel
theorem d_P_paint_8 : decode b_P_paint 8 = .ok (.istore 5, 2) := by decide +kernel
theorem d_P_paint_10 : decode b_P_paint 10 = .ok (.iload 5, 2) := by decide +kernel
theorem d_P_paint_12 : decode b_P_paint 12 = .ok (.iload_n 3, 1) := by decide +kernel
theorem d_P_paint_13 : decode b_P_paint 13 = .ok (.aload_n 0, 1) := by decide +kernel
theorem d_P_paint_14 : decode b_P_paint 14 = .ok (.getfield 18, 3) := by decide +kernel
theorem d_P_paint_17 : decode b_P_paint 17 = .ok (.iload_n 1, 1) := by decide +kernel
theorem d_P_paint_18 : decode b_P_paint 18 = .ok (.isub, 1) := by decide +kernel
theorem d_P_paint_19 : decode b_P_paint 19 = .ok (.invokestatic 9, 3) := by decide +kernel
theorem d_P_paint_22 : decode b_P_paint 22 = .ok (.iadd, 1) := by decide +kernel
theorem d_P_paint_23 : decode b_P_paint 23 = .ok (.istore 6, 2) := by decide +kernel
theorem d_P_paint_25 : decode b_P_paint 25 = .ok (.iconst 0, 1) := by decide +kernel
theorem d_P_paint_26 : decode b_P_paint 26 = .ok (.istore 7, 2) := by decide +kernel
theorem d_P_paint_28 : decode b_P_paint 28 = .ok (.iload 5, 2) := by decide +kernel
theorem d_P_paint_30 : decode b_P_paint 30 = .ok (.istore 8, 2) := by decide +kernel
theorem d_P_paint_32 : decode b_P_paint 32 = .ok (.iload 8, 2) := by decide +kernel
theorem d_P_paint_34 : decode b_P_paint 34 = .ok (.iload 6, 2) := by decide +kernel
theorem d_P_paint_36 : decode b_P_paint 36 = .ok (.if_icmp .ge 34, 3) := by decide +kernel
theorem d_P_paint_39 : decode b_P_paint 39 = .ok (.aload_n 0, 1) := by decide +kernel
theorem d_P_paint_40 : decode b_P_paint 40 = .ok (.getfield 25, 3) := by decide +kernel
theorem d_P_paint_43 : decode b_P_paint 43 = .ok (.iload 8, 2) := by decide +kernel
theorem d_P_paint_45 : decode b_P_paint 45 = .ok (.baload, 1) := by decide +kernel
theorem d_P_paint_46 : decode b_P_paint 46 = .ok (.iload 4, 2) := by decide +kernel
theorem d_P_paint_48 : decode b_P_paint 48 = .ok (.if_icmp .eq 16, 3) := by decide +kernel
theorem d_P_paint_51 : decode b_P_paint 51 = .ok (.aload_n 0, 1) := by decide +kernel
theorem d_P_paint_52 : decode b_P_paint 52 = .ok (.getfield 25, 3) := by decide +kernel
theorem d_P_paint_55 : decode b_P_paint 55 = .ok (.iload 8, 2) := by decide +kernel
theorem d_P_paint_57 : decode b_P_paint 57 = .ok (.iload 4, 2) := by decide +kernel
theorem d_P_paint_59 : decode b_P_paint 59 = .ok (.i2b, 1) := by decide +kernel
theorem d_P_paint_60 : decode b_P_paint 60 = .ok (.bastore, 1) := by decide +kernel
theorem d_P_paint_61 : decode b_P_paint 61 = .ok (.iinc 7 1, 3) := by decide +kernel
theorem d_P_paint_64 : decode b_P_paint 64 = .ok (.iinc 8 1, 3) := by decide +kernel
theorem d_P_paint_67 : decode b_P_paint 67 = .ok (.goto (-35), 3) := by decide +kernel
theorem d_P_paint_70 : decode b_P_paint 70 = .ok (.iload 7, 2) := by decide +kernel
theorem d_P_paint_72 : decode b_P_paint 72 = .ok (.ireturn, 1) := by decide +kernel
theorem d_Ja_fill_0 : decode b_Ja_fill 0 = .ok (.iconst 0, 1) := by decide +kernel
theorem d_Ja_fill_1 : decode b_Ja_fill 1 = .ok (.istore_n 2, 1) := by decide +kernel
theorem d_Ja_fill_2 : decode b_Ja_fill 2 = .ok (.aload_n 0, 1) := by decide +kernel
theorem d_Ja_fill_3 : decode b_Ja_fill 3 = .ok (.arraylength, 1) := by decide +kernel
theorem d_Ja_fill_4 : decode b_Ja_fill 4 = .ok (.istore_n 3, 1) := by decide +kernel
theorem d_Ja_fill_5 : decode b_Ja_fill 5 = .ok (.iload_n 2, 1) := by decide +kernel
theorem d_Ja_fill_6 : decode b_Ja_fill 6 = .ok (.iload_n 3, 1) := by decide +kernel
theorem d_Ja_fill_7 : decode b_Ja_fill 7 = .ok (.if_icmp .ge 13, 3) := by decide +kernel
theorem d_Ja_fill_10 : decode b_Ja_fill 10 = .ok (.aload_n 0, 1) := by decide +kernel
theorem d_Ja_fill_11 : decode b_Ja_fill 11 = .ok (.iload_n 2, 1) := by decide +kernel
theorem d_Ja_fill_12 : decode b_Ja_fill 12 = .ok (.iload_n 1, 1) := by decide +kernel
theorem d_Ja_fill_13 : decode b_Ja_fill 13 = .ok (.bastore, 1) := by decide +kernel
theorem d_Ja_fill_14 : decode b_Ja_fill 14 = .ok (.iinc 2 1, 3) := by decide +kernel
theorem d_Ja_fill_17 : decode b_Ja_fill 17 = .ok (.goto (-12), 3) := by decide +kernel
theorem d_Ja_fill_20 : decode b_Ja_fill 20 = .ok (.return_, 1) := by decide +kernel
theorem d_P_isInside_0 : decode b_P_isInside 0 = .ok (.aload_n 0, 1) := by decide +kernel
theorem d_P_isInside_1 : decode b_P_isInside 1 = .ok (.iload_n 1, 1) := by decide +kernel
theorem d_P_isInside_2 : decode b_P_isInside 2 = .ok (.iload_n 2, 1) := by decide +kernel
theorem d_P_isInside_3 : decode b_P_isInside 3 = .ok (.invokevirtual 29, 3) := by decide +kernel
theorem d_P_isInside_6 : decode b_P_isInside 6 = .ok (.ifCond .eq 24, 3) := by decide +kernel
theorem d_P_isInside_9 : decode b_P_isInside 9 = .ok (.aload_n 0, 1) := by decide +kernel
theorem d_P_isInside_10 : decode b_P_isInside 10 = .ok (.getfield 25, 3) := by decide +kernel
theorem d_P_isInside_13 : decode b_P_isInside 13 = .ok (.iload_n 2, 1) := by decide +kernel
theorem d_P_isInside_14 : decode b_P_isInside 14 = .ok (.aload_n 0, 1) := by decide +kernel
theorem d_P_isInside_15 : decode b_P_isInside 15 = .ok (.getfield 18, 3) := by decide +kernel
theorem d_P_isInside_18 : decode b_P_isInside 18 = .ok (.imul, 1) := by decide +kernel
theorem d_P_isInside_19 : decode b_P_isInside 19 = .ok (.iload_n 1, 1) := by decide +kernel
theorem d_P_isInside_20 : decode b_P_isInside 20 = .ok (.iadd, 1) := by decide +kernel
theorem d_P_isInside_21 : decode b_P_isInside 21 = .ok (.baload, 1) := by decide +kernel
theorem d_P_isInside_22 : decode b_P_isInside 22 = .ok (.iload_n 3, 1) := by decide +kernel
theorem d_P_isInside_23 : decode b_P_isInside 23 = .ok (.if_icmp .lt 7, 3) := by decide +kernel
theorem d_P_isInside_26 : decode b_P_isInside 26 = .ok (.iconst 1, 1) := by decide +kernel
theorem d_P_isInside_27 : decode b_P_isInside 27 = .ok (.goto 4, 3) := by decide +kernel
theorem d_P_isInside_30 : decode b_P_isInside 30 = .ok (.iconst 0, 1) := by decide +kernel
theorem d_P_isInside_31 : decode b_P_isInside 31 = .ok (.ireturn, 1) := by decide +kernel
theorem d_Jm_floorMod_0 : decode b_Jm_floorMod 0 = .ok (.iload_n 0, 1) := by decide +kernel
theorem d_Jm_floorMod_1 : decode b_Jm_floorMod 1 = .ok (.iload_n 1, 1) := by decide +kernel
theorem d_Jm_floorMod_2 : decode b_Jm_floorMod 2 = .ok (.irem, 1) := by decide +kernel
theorem d_Jm_floorMod_3 : decode b_Jm_floorMod 3 = .ok (.istore_n 2, 1) := by decide +kernel
theorem d_Jm_floorMod_4 : decode b_Jm_floorMod 4 = .ok (.iload_n 0, 1) := by decide +kernel
theorem d_Jm_floorMod_5 : decode b_Jm_floorMod 5 = .ok (.iload_n 1, 1) := by decide +kernel
theorem d_Jm_floorMod_6 : decode b_Jm_floorMod 6 = .ok (.ixor, 1) := by decide +kernel
theorem d_Jm_floorMod_7 : decode b_Jm_floorMod 7 = .ok (.ifCond .ge 11, 3) := by decide +kernel
theorem d_Jm_floorMod_10 : decode b_Jm_floorMod 10 = .ok (.iload_n 2, 1) := by decide +kernel
theorem d_Jm_floorMod_11 : decode b_Jm_floorMod 11 = .ok (.ifCond .eq 7, 3) := by decide +kernel
theorem d_Jm_floorMod_14 : decode b_Jm_floorMod 14 = .ok (.iload_n 2, 1) := by decide +kernel
theorem d_Jm_floorMod_15 : decode b_Jm_floorMod 15 = .ok (.iload_n 1, 1) := by decide +kernel
theorem d_Jm_floorMod_16 : decode b_Jm_floorMod 16 = .ok (.iadd, 1) := by decide +kernel
theorem d_Jm_floorMod_17 : decode b_Jm_floorMod 17 = .ok (.ireturn, 1) := by decide +kernel
theorem d_Jm_floorMod_18 : decode b_Jm_floorMod 18 = .ok (.iload_n 2, 1) := by decide +kernel
theorem d_Jm_floorMod_19 : decode b_Jm_floorMod 19 = .ok (.ireturn, 1) := by decide +kernel
theorem d_Ji_compare_0 : decode b_Ji_compare 0 = .ok (.iload_n 0, 1) := by decide +kernel
theorem d_Ji_compare_1 : decode b_Ji_compare 1 = .ok (.iload_n 1, 1) := by decide +kernel
theorem d_Ji_compare_2 : decode b_Ji_compare 2 = .ok (.if_icmp .ge 7, 3) := by decide +kernel
theorem d_Ji_compare_5 : decode b_Ji_compare 5 = .ok (.iconst (-1), 1) := by decide +kernel
theorem d_Ji_compare_6 : decode b_Ji_compare 6 = .ok (.goto 13, 3) := by decide +kernel
theorem d_Ji_compare_9 : decode b_Ji_compare 9 = .ok (.iload_n 0, 1) := by decide +kernel
theorem d_Ji_compare_10 : decode b_Ji_compare 10 = .ok (.iload_n 1, 1) := by decide +kernel
theorem d_Ji_compare_11 : decode b_Ji_compare 11 = .ok (.if_icmp .ne 7, 3) := by decide +kernel
theorem d_Ji_compare_14 : decode b_Ji_compare 14 = .ok (.iconst 0, 1) := by decide +kernel
theorem d_Ji_compare_15 : decode b_Ji_compare 15 = .ok (.goto 4, 3) := by decide +kernel
theorem d_Ji_compare_18 : decode b_Ji_compare 18 = .ok (.iconst 1, 1) := by decide +kernel
theorem d_Ji_compare_19 : decode b_Ji_compare 19 = .ok (.ireturn, 1) := by decide +kernel
theorem d_P_coloured_0 : decode b_P_coloured 0 = .ok (.iconst 0, 1) := by decide +kernel
theorem d_P_coloured_1 : decode b_P_coloured 1 = .ok (.istore_n 1, 1) := by decide +kernel
theorem d_P_coloured_2 : decode b_P_coloured 2 = .ok (.iconst 0, 1) := by decide +kernel
theorem d_P_coloured_3 : decode b_P_coloured 3 = .ok (.istore_n 2, 1) := by decide +kernel
theorem d_P_coloured_4 : decode b_P_coloured 4 = .ok (.iload_n 2, 1) := by decide +kernel
theorem d_P_coloured_5 : decode b_P_coloured 5 = .ok (.aload_n 0, 1) := by decide +kernel
theorem d_P_coloured_6 : decode b_P_coloured 6 = .ok (.getfield 25, 3) := by decide +kernel
theorem d_P_coloured_9 : decode b_P_coloured 9 = .ok (.arraylength, 1) := by decide +kernel
theorem d_P_coloured_10 : decode b_P_coloured 10 = .ok (.if_icmp .ge 21, 3) := by decide +kernel
theorem d_P_coloured_13 : decode b_P_coloured 13 = .ok (.aload_n 0, 1) := by decide +kernel
theorem d_P_coloured_14 : decode b_P_coloured 14 = .ok (.getfield 25, 3) := by decide +kernel
theorem d_P_coloured_17 : decode b_P_coloured 17 = .ok (.iload_n 2, 1) := by decide +kernel
theorem d_P_coloured_18 : decode b_P_coloured 18 = .ok (.baload, 1) := by decide +kernel
theorem d_P_coloured_19 : decode b_P_coloured 19 = .ok (.ifCond .le 6, 3) := by decide +kernel
theorem d_P_coloured_22 : decode b_P_coloured 22 = .ok (.iinc 1 1, 3) := by decide +kernel
theorem d_P_coloured_25 : decode b_P_coloured 25 = .ok (.iinc 2 1, 3) := by decide +kernel
theorem d_P_coloured_28 : decode b_P_coloured 28 = .ok (.goto (-24), 3) := by decide +kernel
theorem d_P_coloured_31 : decode b_P_coloured 31 = .ok (.iload_n 1, 1) := by decide +kernel
theorem d_P_coloured_32 : decode b_P_coloured 32 = .ok (.ireturn, 1) := by decide +kernel
theorem d_P_wipe_0 : decode b_P_wipe 0 = .ok (.aload_n 0, 1) := by decide +kernel
theorem d_P_wipe_1 : decode b_P_wipe 1 = .ok (.getfield 25, 3) := by decide +kernel
theorem d_P_wipe_4 : decode b_P_wipe 4 = .ok (.iconst 0, 1) := by decide +kernel
theorem d_P_wipe_5 : decode b_P_wipe 5 = .ok (.invokestatic 33, 3) := by decide +kernel
theorem d_P_wipe_8 : decode b_P_wipe 8 = .ok (.return_, 1) := by decide +kernel
theorem d_P_sides_0 : decode b_P_sides 0 = .ok (.aload_n 0, 1) := by decide +kernel
theorem d_P_sides_1 : decode b_P_sides 1 = .ok (.getfield 18, 3) := by decide +kernel
theorem d_P_sides_4 : decode b_P_sides 4 = .ok (.aload_n 0, 1) := by decide +kernel
theorem d_P_sides_5 : decode b_P_sides 5 = .ok (.getfield 22, 3) := by decide +kernel
theorem d_P_sides_8 : decode b_P_sides 8 = .ok (.iconst 1, 1) := by decide +kernel
theorem d_P_sides_9 : decode b_P_sides 9 = .ok (.iadd, 1) := by decide +kernel
theorem d_P_sides_10 : decode b_P_sides 10 = .ok (.imul, 1) := by decide +kernel
theorem d_P_sides_11 : decode b_P_sides 11 = .ok (.aload_n 0, 1) := by decide +kernel
theorem d_P_sides_12 : decode b_P_sides 12 = .ok (.getfield 22, 3) := by decide +kernel
theorem d_P_sides_15 : decode b_P_sides 15 = .ok (.aload_n 0, 1) := by decide +kernel
theorem d_P_sides_16 : decode b_P_sides 16 = .ok (.getfield 18, 3) := by decide +kernel
theorem d_P_sides_19 : decode b_P_sides 19 = .ok (.iconst 1, 1) := by decide +kernel
theorem d_P_sides_20 : decode b_P_sides 20 = .ok (.iadd, 1) := by decide +kernel
theorem d_P_sides_21 : decode b_P_sides 21 = .ok (.imul, 1) := by decide +kernel
theorem d_P_sides_22 : decode b_P_sides 22 = .ok (.iadd, 1) := by decide +kernel
theorem d_P_sides_23 : decode b_P_sides 23 = .ok (.ireturn, 1) := by decide +kernel
