theorem d_P_has_0 : decode b_P_has 0 = .ok (.iload_n 1, 1) := by decide +kernel
theorem d_P_has_1 : decode b_P_has 1 = .ok (.ifCond .lt 27, 3) := by decide +kernel
theorem d_P_has_4 : decode b_P_has 4 = .ok (.iload_n 1, 1) := by decide +kernel
theorem d_P_has_5 : decode b_P_has 5 = .ok (.aload_n 0, 1) := by decide +kernel
theorem d_P_has_6 : decode b_P_has 6 = .ok (.getfield 18, 3) := by decide +kernel
theorem d_P_has_9 : decode b_P_has 9 = .ok (.if_icmp .ge 19, 3) := by decide +kernel
theorem d_P_has_12 : decode b_P_has 12 = .ok (.iload_n 2, 1) := by decide +kernel
theorem d_P_has_13 : decode b_P_has 13 = .ok (.ifCond .lt 15, 3) := by decide +kernel
theorem d_P_has_16 : decode b_P_has 16 = .ok (.iload_n 2, 1) := by decide +kernel
theorem d_P_has_17 : decode b_P_has 17 = .ok (.aload_n 0, 1) := by decide +kernel
theorem d_P_has_18 : decode b_P_has 18 = .ok (.getfield 22, 3) := by decide +kernel
theorem d_P_has_21 : decode b_P_has 21 = .ok (.if_icmp .ge 7, 3) := by decide +kernel
theorem d_P_has_24 : decode b_P_has 24 = .ok (.iconst 1, 1) := by decide +kernel
theorem d_P_has_25 : decode b_P_has 25 = .ok (.goto 4, 3) := by decide +kernel
theorem d_P_has_28 : decode b_P_has 28 = .ok (.iconst 0, 1) := by decide +kernel
theorem d_P_has_29 : decode b_P_has 29 = .ok (.ireturn, 1) := by decide +kernel
theorem d_O_requireSample_0 : decode b_O_requireSample 0 = .ok (.aload_n 0, 1) := by decide +kernel
theorem d_O_requireSample_1 : decode b_O_requireSample 1 = .ok (.getfield 12, 3) := by decide +kernel
theorem d_O_requireSample_4 : decode b_O_requireSample 4 = .ok (.iload_n 1, 1) := by decide +kernel
theorem d_O_requireSample_5 : decode b_O_requireSample 5 = .ok (.iload_n 2, 1) := by decide +kernel
theorem d_O_requireSample_6 : decode b_O_requireSample 6 = .ok (.invokevirtual 181, 3) := by decide +kernel
theorem d_O_requireSample_9 : decode b_O_requireSample 9 = .ok (.ifCond .ne 13, 3) := by decide +kernel
theorem d_O_requireSample_12 : decode b_O_requireSample 12 = .ok (.new 185, 3) := by decide +kernel
theorem d_O_requireSample_15 : decode b_O_requireSample 15 = .ok (.dup, 1) := by decide +kernel
theorem d_O_requireSample_16 : decode b_O_requireSample 16 = .ok (.ldc 187, 2) := by decide +kernel
theorem d_O_requireSample_18 : decode b_O_requireSample 18 = .ok (.invokespecial 189, 3) := by decide +kernel
theorem d_O_requireSample_21 : decode b_O_requireSample 21 = .ok (.athrow, 1) := by decide +kernel
theorem d_O_requireSample_22 : decode b_O_requireSample 22 = .ok (.return_, 1) := by decide +kernel
theorem d_O_requireRange_0 : decode b_O_requireRange 0 = .ok (.iload_n 0, 1) := by decide +kernel
theorem d_O_requireRange_1 : decode b_O_requireRange 1 = .ok (.iload_n 1, 1) := by decide +kernel
theorem d_O_requireRange_2 : decode b_O_requireRange 2 = .ok (.if_icmp .lt 8, 3) := by decide +kernel
theorem d_O_requireRange_5 : decode b_O_requireRange 5 = .ok (.iload_n 0, 1) := by decide +kernel
theorem d_O_requireRange_6 : decode b_O_requireRange 6 = .ok (.iload_n 2, 1) := by decide +kernel
theorem d_O_requireRange_7 : decode b_O_requireRange 7 = .ok (.if_icmp .le 13, 3) := by decide +kernel
theorem d_O_requireRange_10 : decode b_O_requireRange 10 = .ok (.new 207, 3) := by decide +kernel
theorem d_O_requireRange_13 : decode b_O_requireRange 13 = .ok (.dup, 1) := by decide +kernel
theorem d_O_requireRange_14 : decode b_O_requireRange 14 = .ok (.ldc 209, 2) := by decide +kernel
theorem d_O_requireRange_16 : decode b_O_requireRange 16 = .ok (.invokespecial 211, 3) := by decide +kernel
theorem d_O_requireRange_19 : decode b_O_requireRange 19 = .ok (.athrow, 1) := by decide +kernel
theorem d_O_requireRange_20 : decode b_O_requireRange 20 = .ok (.return_, 1) := by decide +kernel
theorem d_P_paint_0 : decode b_P_paint 0 = .ok (.iload_n 2, 1) := by decide +kernel
theorem d_P_paint_1 : decode b_P_paint 1 = .ok (.aload_n 0, 1) := by decide +kernel
theorem d_P_paint_2 : decode b_P_paint 2 = .ok (.getfield 18, 3) := by decide +kernel
theorem d_P_paint_5 : decode b_P_paint 5 = .ok (.imul, 1) := by decide +kernel
theorem d_P_paint_6 : decode b_P_paint 6 = .ok (.iload_n 1, 1) := by decide +kernel
theorem d_P_paint_7 : decode b_P_paint 7 = .ok (.iadd, 1) := by decide +kernel
theorem d_P_paint_8 : decode b_P_paint 8 = .ok (.istore 5, 2) := by decide +kernel
theorem d_P_paint_10 : decode b_P_paint 10 = .ok (.iload 5, 2) := by decide +kernel
theorem d_P_paint_12 : decode b_P_paint 12 = .ok (.iload_n 3, 1) := by decide +kernel
theorem d_P_paint_13 : decode b_P_paint 13 = .ok (.aload_n 0, 1) := by decide +kernel
theorem d_P_paint_14 : decode b_P_paint 14 = .ok (.getfield 18, 3) := by decide +kernel
theorem d_P_paint_17 : decode b_P_paint 17 = .ok (.iload_n 1, 1) := by decide +kernel
theorem d_P_paint_18 : decode b_P_paint 18 = .ok (.isub, 1) := by decide +kernel
theorem d_P_paint_19 : decode b_P_paint 19 = .ok (.invokestatic 9, 3) := by decide +kernel
theorem d_P_paint_22 : decode b_P_paint 22 = .ok (.iadd, 1) := by decide +kernel
theorem d_P_paint_23 : decode b_P_paint 23 = .ok (.istore 6, 2) := by decide +kernel
theorem d_P_paint_25 : decode b_P_paint 25 = .ok (.iconst 0, 1) := by decide +kernel
theorem d_P_paint_26 : decode b_P_paint 26 = .ok (.istore 7, 2) := by decide +kernel
theorem d_P_paint_28 : decode b_P_paint 28 = .ok (.iload 5, 2) := by decide +kernel
theorem d_P_paint_30 : decode b_P_paint 30 = .ok (.istore 8, 2) := by decide +kernel
theorem d_P_paint_32 : decode b_P_paint 32 = .ok (.iload 8, 2) := by decide +kernel
theorem d_P_paint_34 : decode b_P_paint 34 = .ok (.iload 6, 2) := by decide +kernel
theorem d_P_paint_36 : decode b_P_paint 36 = .ok (.if_icmp .ge 34, 3) := by decide +kernel
theorem d_P_paint_39 : decode b_P_paint 39 = .ok (.aload_n 0, 1) := by decide +kernel
theorem d_P_paint_40 : decode b_P_paint 40 = .ok (.getfield 25, 3) := by decide +kernel
theorem d_P_paint_43 : decode b_P_paint 43 = .ok (.iload 8, 2) := by decide +kernel
theorem d_P_paint_45 : decode b_P_paint 45 = .ok (.baload, 1) := by decide +kernel
theorem d_P_paint_46 : decode b_P_paint 46 = .ok (.iload 4, 2) := by decide +kernel
theorem d_P_paint_48 : decode b_P_paint 48 = .ok (.if_icmp .eq 16, 3) := by decide +kernel
theorem d_P_paint_51 : decode b_P_paint 51 = .ok (.aload_n 0, 1) := by decide +kernel
theorem d_P_paint_52 : decode b_P_paint 52 = .ok (.getfield 25, 3) := by decide +kernel
theorem d_P_paint_55 : decode b_P_paint 55 = .ok (.iload 8, 2) := by decide +kernel
theorem d_P_paint_57 : decode b_P_paint 57 = .ok (.iload 4, 2) := by decide +kernel
theorem d_P_paint_59 : decode b_P_paint 59 = .ok (.i2b, 1) := by decide +kernel
theorem d_P_paint_60 : decode b_P_paint 60 = .ok (.bastore, 1) := by decide +kernel
theorem d_P_paint_61 : decode b_P_paint 61 = .ok (.iinc 7 1, 3) := by decide +kernel
theorem d_P_paint_64 : decode b_P_paint 64 = .ok (.iinc 8 1, 3) := by decide +kernel
theorem d_P_paint_67 : decode b_P_paint 67 = .ok (.goto (-35), 3) := by decide +kernel
theorem d_P_paint_70 : decode b_P_paint 70 = .ok (.iload 7, 2) := by decide +kernel
theorem d_P_paint_72 : decode b_P_paint 72 = .ok (.ireturn, 1) := by decide +kernel
theorem d_U_forget_0 : decode b_U_forget 0 = .ok (.aload_n 0, 1) := by decide +kernel
theorem d_U_forget_1 : decode b_U_forget 1 = .ok (.iconst 0, 1) := by decide +kernel
theorem d_U_forget_2 : decode b_U_forget 2 = .ok (.putfield 48, 3) := by decide +kernel
theorem d_U_forget_5 : decode b_U_forget 5 = .ok (.aload_n 0, 1) := by decide +kernel
theorem d_U_forget_6 : decode b_U_forget 6 = .ok (.iconst 0, 1) := by decide +kernel
theorem d_U_forget_7 : decode b_U_forget 7 = .ok (.putfield 52, 3) := by decide +kernel
theorem d_U_forget_10 : decode b_U_forget 10 = .ok (.return_, 1) := by decide +kernel
theorem d_G_forget_0 : decode b_G_forget 0 = .ok (.aload_n 0, 1) := by decide +kernel
theorem d_G_forget_1 : decode b_G_forget 1 = .ok (.iconst 0, 1) := by decide +kernel
theorem d_G_forget_2 : decode b_G_forget 2 = .ok (.putfield 40, 3) := by decide +kernel
theorem d_G_forget_5 : decode b_G_forget 5 = .ok (.aload_n 0, 1) := by decide +kernel
theorem d_G_forget_6 : decode b_G_forget 6 = .ok (.iconst 0, 1) := by decide +kernel
theorem d_G_forget_7 : decode b_G_forget 7 = .ok (.putfield 44, 3) := by decide +kernel
theorem d_G_forget_10 : decode b_G_forget 10 = .ok (.return_, 1) := by decide +kernel
theorem d_C_forget_0 : decode b_C_forget 0 = .ok (.aload_n 0, 1) := by decide +kernel
theorem d_C_forget_1 : decode b_C_forget 1 = .ok (.iconst 0, 1) := by decide +kernel
theorem d_C_forget_2 : decode b_C_forget 2 = .ok (.putfield 40, 3) := by decide +kernel
theorem d_C_forget_5 : decode b_C_forget 5 = .ok (.return_, 1) := by decide +kernel
theorem d_O_forgetOutlines_0 : decode b_O_forgetOutlines 0 = .ok (.aload_n 0, 1) := by decide +kernel
theorem d_O_forgetOutlines_1 : decode b_O_forgetOutlines 1 = .ok (.getfield 23, 3) := by decide +kernel
theorem d_O_forgetOutlines_4 : decode b_O_forgetOutlines 4 = .ok (.invokevirtual 179, 3) := by decide +kernel
theorem d_O_forgetOutlines_7 : decode b_O_forgetOutlines 7 = .ok (.aload_n 0, 1) := by decide +kernel
theorem d_O_forgetOutlines_8 : decode b_O_forgetOutlines 8 = .ok (.getfield 36, 3) := by decide +kernel
theorem d_O_forgetOutlines_11 : decode b_O_forgetOutlines 11 = .ok (.invokevirtual 180, 3) := by decide +kernel
theorem d_O_forgetOutlines_14 : decode b_O_forgetOutlines 14 = .ok (.aload_n 0, 1) := by decide +kernel
theorem d_O_forgetOutlines_15 : decode b_O_forgetOutlines 15 = .ok (.getfield 45, 3) := by decide +kernel
theorem d_O_forgetOutlines_18 : decode b_O_forgetOutlines 18 = .ok (.invokevirtual 113, 3) := by decide +kernel
theorem d_O_forgetOutlines_21 : decode b_O_forgetOutlines 21 = .ok (.return_, 1) := by decide +kernel
theorem d_O_put_0 : decode b_O_put 0 = .ok (.aload_n 0, 1) := by decide +kernel
theorem d_O_put_1 : decode b_O_put 1 = .ok (.iload_n 1, 1) := by decide +kernel
theorem d_O_put_2 : decode b_O_put 2 = .ok (.iload_n 2, 1) := by decide +kernel
theorem d_O_put_3 : decode b_O_put 3 = .ok (.invokevirtual 49, 3) := by decide +kernel
theorem d_O_put_6 : decode b_O_put 6 = .ok (.iload_n 3, 1) := by decide +kernel
theorem d_O_put_7 : decode b_O_put 7 = .ok (.iconst 1, 1) := by decide +kernel
theorem d_O_put_8 : decode b_O_put 8 = .ok (.ldc 54, 2) := by decide +kernel
theorem d_O_put_10 : decode b_O_put 10 = .ok (.invokestatic 55, 3) := by decide +kernel
theorem d_O_put_13 : decode b_O_put 13 = .ok (.iload 4, 2) := by decide +kernel
theorem d_O_put_15 : decode b_O_put 15 = .ok (.iconst 0, 1) := by decide +kernel
theorem d_O_put_16 : decode b_O_put 16 = .ok (.bipush 7, 2) := by decide +kernel
theorem d_O_put_18 : decode b_O_put 18 = .ok (.invokestatic 55, 3) := by decide +kernel
theorem d_O_put_21 : decode b_O_put 21 = .ok (.aload_n 0, 1) := by decide +kernel
theorem d_O_put_22 : decode b_O_put 22 = .ok (.getfield 12, 3) := by decide +kernel
theorem d_O_put_25 : decode b_O_put 25 = .ok (.iload_n 1, 1) := by decide +kernel
theorem d_O_put_26 : decode b_O_put 26 = .ok (.iload_n 2, 1) := by decide +kernel
theorem d_O_put_27 : decode b_O_put 27 = .ok (.iload_n 3, 1) := by decide +kernel
theorem d_O_put_28 : decode b_O_put 28 = .ok (.iload 4, 2) := by decide +kernel
theorem d_O_put_30 : decode b_O_put 30 = .ok (.invokevirtual 59, 3) := by decide +kernel
theorem d_O_put_33 : decode b_O_put 33 = .ok (.istore 5, 2) := by decide +kernel
theorem d_O_put_35 : decode b_O_put 35 = .ok (.iload 5, 2) := by decide +kernel
theorem d_O_put_37 : decode b_O_put 37 = .ok (.ifCond .le 7, 3) := by decide +kernel
theorem d_O_put_40 : decode b_O_put 40 = .ok (.aload_n 0, 1) := by decide +kernel
theorem d_O_put_41 : decode b_O_put 41 = .ok (.invokevirtual 63, 3) := by decide +kernel
theorem d_O_put_44 : decode b_O_put 44 = .ok (.iload 5, 2) := by decide +kernel
theorem d_O_put_46 : decode b_O_put 46 = .ok (.ireturn, 1) := by decide +kernel
theorem d_Ja_fill_0 : decode b_Ja_fill 0 = .ok (.iconst 0, 1) := by decide +kernel
theorem d_Ja_fill_1 : decode b_Ja_fill 1 = .ok (.istore_n 2, 1) := by decide +kernel
theorem d_Ja_fill_2 : decode b_Ja_fill 2 = .ok (.aload_n 0, 1) := by decide +kernel
theorem d_Ja_fill_3 : decode b_Ja_fill 3 = .ok (.arraylength, 1) := by decide +kernel
theorem d_Ja_fill_4 : decode b_Ja_fill 4 = .ok (.istore_n 3, 1) := by decide +kernel
theorem d_Ja_fill_5 : decode b_Ja_fill 5 = .ok (.iload_n 2, 1) := by decide +kernel
theorem d_Ja_fill_6 : decode b_Ja_fill 6 = .ok (.iload_n 3, 1) := by decide +kernel
theorem d_Ja_fill_7 : decode b_Ja_fill 7 = .ok (.if_icmp .ge 13, 3) := by decide +kernel
theorem d_Ja_fill_10 : decode b_Ja_fill 10 = .ok (.aload_n 0, 1) := by decide +kernel
theorem d_Ja_fill_11 : decode b_Ja_fill 11 = .ok (.iload_n 2, 1) := by decide +kernel
theorem d_Ja_fill_12 : decode b_Ja_fill 12 = .ok (.iload_n 1, 1) := by decide +kernel
theorem d_Ja_fill_13 : decode b_Ja_fill 13 = .ok (.bastore, 1) := by decide +kernel
theorem d_Ja_fill_14 : decode b_Ja_fill 14 = .ok (.iinc 2 1, 3) := by decide +kernel
theorem d_Ja_fill_17 : decode b_Ja_fill 17 = .ok (.goto (-12), 3) := by decide +kernel
theorem d_Ja_fill_20 : decode b_Ja_fill 20 = .ok (.return_, 1) := by decide +kernel
theorem d_P_isInside_0 : decode b_P_isInside 0 = .ok (.aload_n 0, 1) := by decide +kernel
theorem d_P_isInside_1 : decode b_P_isInside 1 = .ok (.iload_n 1, 1) := by decide +kernel
theorem d_P_isInside_2 : decode b_P_isInside 2 = .ok (.iload_n 2, 1) := by decide +kernel
theorem d_P_isInside_3 : decode b_P_isInside 3 = .ok (.invokevirtual 29, 3) := by decide +kernel
theorem d_P_isInside_6 : decode b_P_isInside 6 = .ok (.ifCond .eq 24, 3) := by decide +kernel
theorem d_P_isInside_9 : decode b_P_isInside 9 = .ok (.aload_n 0, 1) := by decide +kernel
theorem d_P_isInside_10 : decode b_P_isInside 10 = .ok (.getfield 25, 3) := by decide +kernel
theorem d_P_isInside_13 : decode b_P_isInside 13 = .ok (.iload_n 2, 1) := by decide +kernel
theorem d_P_isInside_14 : decode b_P_isInside 14 = .ok (.aload_n 0, 1) := by decide +kernel
theorem d_P_isInside_15 : decode b_P_isInside 15 = .ok (.getfield 18, 3) := by decide +kernel
theorem d_P_isInside_18 : decode b_P_isInside 18 = .ok (.imul, 1) := by decide +kernel
theorem d_P_isInside_19 : decode b_P_isInside 19 = .ok (.iload_n 1, 1) := by decide +kernel
theorem d_P_isInside_20 : decode b_P_isInside 20 = .ok (.iadd, 1) := by decide +kernel
theorem d_P_isInside_21 : decode b_P_isInside 21 = .ok (.baload, 1) := by decide +kernel
theorem d_P_isInside_22 : decode b_P_isInside 22 = .ok (.iload_n 3, 1) := by decide +kernel
theorem d_P_isInside_23 : decode b_P_isInside 23 = .ok (.if_icmp .lt 7, 3) := by decide +kernel
theorem d_P_isInside_26 : decode b_P_isInside 26 = .ok (.iconst 1, 1) := by decide +kernel
theorem d_P_isInside_27 : decode b_P_isInside 27 = .ok (.goto 4, 3) := by decide +kernel
theorem d_P_isInside_30 : decode b_P_isInside 30 = .ok (.iconst 0, 1) := by decide +kernel
theorem d_P_isInside_31 : decode b_P_isInside 31 = .ok (.ireturn, 1) := by decide +kernel
theorem d_U_beginsOutline_0 : decode b_U_beginsOutline 0 = .ok (.aload_n 0, 1) := by decide +kernel
theorem d_U_beginsOutline_1 : decode b_U_beginsOutline 1 = .ok (.getfield 9, 3) := by decide +kernel
theorem d_U_beginsOutline_4 : decode b_U_beginsOutline 4 = .ok (.iload_n 1, 1) := by decide +kernel
theorem d_U_beginsOutline_5 : decode b_U_beginsOutline 5 = .ok (.iload_n 2, 1) := by decide +kernel
theorem d_U_beginsOutline_6 : decode b_U_beginsOutline 6 = .ok (.iload_n 3, 1) := by decide +kernel
theorem d_U_beginsOutline_7 : decode b_U_beginsOutline 7 = .ok (.invokevirtual 75, 3) := by decide +kernel
theorem d_U_beginsOutline_10 : decode b_U_beginsOutline 10 = .ok (.ifCond .eq 41, 3) := by decide +kernel
theorem d_U_beginsOutline_13 : decode b_U_beginsOutline 13 = .ok (.aload_n 0, 1) := by decide +kernel
theorem d_U_beginsOutline_14 : decode b_U_beginsOutline 14 = .ok (.getfield 9, 3) := by decide +kernel
theorem d_U_beginsOutline_17 : decode b_U_beginsOutline 17 = .ok (.iload_n 1, 1) := by decide +kernel
theorem d_U_beginsOutline_18 : decode b_U_beginsOutline 18 = .ok (.iload_n 2, 1) := by decide +kernel
theorem d_U_beginsOutline_19 : decode b_U_beginsOutline 19 = .ok (.iconst 1, 1) := by decide +kernel
theorem d_U_beginsOutline_20 : decode b_U_beginsOutline 20 = .ok (.isub, 1) := by decide +kernel
theorem d_U_beginsOutline_21 : decode b_U_beginsOutline 21 = .ok (.iload_n 3, 1) := by decide +kernel
theorem d_U_beginsOutline_22 : decode b_U_beginsOutline 22 = .ok (.invokevirtual 75, 3) := by decide +kernel
theorem d_U_beginsOutline_25 : decode b_U_beginsOutline 25 = .ok (.ifCond .ne 26, 3) := by decide +kernel
theorem d_U_beginsOutline_28 : decode b_U_beginsOutline 28 = .ok (.aload_n 0, 1) := by decide +kernel
theorem d_U_beginsOutline_29 : decode b_U_beginsOutline 29 = .ok (.getfield 45, 3) := by decide +kernel
theorem d_U_beginsOutline_32 : decode b_U_beginsOutline 32 = .ok (.iload_n 2, 1) := by decide +kernel
theorem d_U_beginsOutline_33 : decode b_U_beginsOutline 33 = .ok (.aload_n 0, 1) := by decide +kernel
theorem d_U_beginsOutline_34 : decode b_U_beginsOutline 34 = .ok (.getfield 9, 3) := by decide +kernel
theorem d_U_beginsOutline_37 : decode b_U_beginsOutline 37 = .ok (.getfield 38, 3) := by decide +kernel
theorem d_U_beginsOutline_40 : decode b_U_beginsOutline 40 = .ok (.imul, 1) := by decide +kernel
theorem d_U_beginsOutline_41 : decode b_U_beginsOutline 41 = .ok (.iload_n 1, 1) := by decide +kernel
theorem d_U_beginsOutline_42 : decode b_U_beginsOutline 42 = .ok (.iadd, 1) := by decide +kernel
theorem d_U_beginsOutline_43 : decode b_U_beginsOutline 43 = .ok (.baload, 1) := by decide +kernel
theorem d_U_beginsOutline_44 : decode b_U_beginsOutline 44 = .ok (.ifCond .ne 7, 3) := by decide +kernel
theorem d_U_beginsOutline_47 : decode b_U_beginsOutline 47 = .ok (.iconst 1, 1) := by decide +kernel
theorem d_U_beginsOutline_48 : decode b_U_beginsOutline 48 = .ok (.goto 4, 3) := by decide +kernel
theorem d_U_beginsOutline_51 : decode b_U_beginsOutline 51 = .ok (.iconst 0, 1) := by decide +kernel
theorem d_U_beginsOutline_52 : decode b_U_beginsOutline 52 = .ok (.ireturn, 1) := by decide +kernel
theorem d_U_insideRound_0 : decode b_U_insideRound 0 = .ok (.iconst 0, 1) := by decide +kernel
theorem d_U_insideRound_1 : decode b_U_insideRound 1 = .ok (.istore 4, 2) := by decide +kernel
theorem d_U_insideRound_3 : decode b_U_insideRound 3 = .ok (.iload_n 2, 1) := by decide +kernel
theorem d_U_insideRound_4 : decode b_U_insideRound 4 = .ok (.iconst 2, 1) := by decide +kernel
theorem d_U_insideRound_5 : decode b_U_insideRound 5 = .ok (.isub, 1) := by decide +kernel
theorem d_U_insideRound_6 : decode b_U_insideRound 6 = .ok (.istore 5, 2) := by decide +kernel
theorem d_U_insideRound_8 : decode b_U_insideRound 8 = .ok (.iload 5, 2) := by decide +kernel
theorem d_U_insideRound_10 : decode b_U_insideRound 10 = .ok (.iload_n 2, 1) := by decide +kernel
theorem d_U_insideRound_11 : decode b_U_insideRound 11 = .ok (.iconst 2, 1) := by decide +kernel
theorem d_U_insideRound_12 : decode b_U_insideRound 12 = .ok (.iadd, 1) := by decide +kernel
theorem d_U_insideRound_13 : decode b_U_insideRound 13 = .ok (.if_icmp .ge 46, 3) := by decide +kernel
theorem d_U_insideRound_16 : decode b_U_insideRound 16 = .ok (.iload_n 1, 1) := by decide +kernel
theorem d_U_insideRound_17 : decode b_U_insideRound 17 = .ok (.iconst 2, 1) := by decide +kernel
theorem d_U_insideRound_18 : decode b_U_insideRound 18 = .ok (.isub, 1) := by decide +kernel
theorem d_U_insideRound_19 : decode b_U_insideRound 19 = .ok (.istore 6, 2) := by decide +kernel
theorem d_U_insideRound_21 : decode b_U_insideRound 21 = .ok (.iload 6, 2) := by decide +kernel
theorem d_U_insideRound_23 : decode b_U_insideRound 23 = .ok (.iload_n 1, 1) := by decide +kernel
theorem d_U_insideRound_24 : decode b_U_insideRound 24 = .ok (.iconst 2, 1) := by decide +kernel
theorem d_U_insideRound_25 : decode b_U_insideRound 25 = .ok (.iadd, 1) := by decide +kernel
theorem d_U_insideRound_26 : decode b_U_insideRound 26 = .ok (.if_icmp .ge 27, 3) := by decide +kernel
theorem d_U_insideRound_29 : decode b_U_insideRound 29 = .ok (.aload_n 0, 1) := by decide +kernel
theorem d_U_insideRound_30 : decode b_U_insideRound 30 = .ok (.getfield 9, 3) := by decide +kernel
theorem d_U_insideRound_33 : decode b_U_insideRound 33 = .ok (.iload 6, 2) := by decide +kernel
theorem d_U_insideRound_35 : decode b_U_insideRound 35 = .ok (.iload 5, 2) := by decide +kernel
theorem d_U_insideRound_37 : decode b_U_insideRound 37 = .ok (.iload_n 3, 1) := by decide +kernel
theorem d_U_insideRound_38 : decode b_U_insideRound 38 = .ok (.invokevirtual 75, 3) := by decide +kernel
theorem d_U_insideRound_41 : decode b_U_insideRound 41 = .ok (.ifCond .eq 6, 3) := by decide +kernel
theorem d_U_insideRound_44 : decode b_U_insideRound 44 = .ok (.iinc 4 1, 3) := by decide +kernel
theorem d_U_insideRound_47 : decode b_U_insideRound 47 = .ok (.iinc 6 1, 3) := by decide +kernel
theorem d_U_insideRound_50 : decode b_U_insideRound 50 = .ok (.goto (-29), 3) := by decide +kernel
theorem d_U_insideRound_53 : decode b_U_insideRound 53 = .ok (.iinc 5 1, 3) := by decide +kernel
theorem d_U_insideRound_56 : decode b_U_insideRound 56 = .ok (.goto (-48), 3) := by decide +kernel
theorem d_U_insideRound_59 : decode b_U_insideRound 59 = .ok (.iload 4, 2) := by decide +kernel
theorem d_U_insideRound_61 : decode b_U_insideRound 61 = .ok (.ireturn, 1) := by decide +kernel
theorem d_U_turnsLeft_0 : decode b_U_turnsLeft 0 = .ok (.iload 4, 2) := by decide +kernel
theorem d_U_turnsLeft_2 : decode b_U_turnsLeft 2 = .ok (.tableswitch 48 0 2 #[26, 28, 30], 26) := by decide +kernel
theorem d_U_turnsLeft_28 : decode b_U_turnsLeft 28 = .ok (.iconst 1, 1) := by decide +kernel
theorem d_U_turnsLeft_29 : decode b_U_turnsLeft 29 = .ok (.ireturn, 1) := by decide +kernel
theorem d_U_turnsLeft_30 : decode b_U_turnsLeft 30 = .ok (.iconst 0, 1) := by decide +kernel
theorem d_U_turnsLeft_31 : decode b_U_turnsLeft 31 = .ok (.ireturn, 1) := by decide +kernel
theorem d_U_turnsLeft_32 : decode b_U_turnsLeft 32 = .ok (.aload_n 0, 1) := by decide +kernel
theorem d_U_turnsLeft_33 : decode b_U_turnsLeft 33 = .ok (.iload_n 1, 1) := by decide +kernel
theorem d_U_turnsLeft_34 : decode b_U_turnsLeft 34 = .ok (.iload_n 2, 1) := by decide +kernel
theorem d_U_turnsLeft_35 : decode b_U_turnsLeft 35 = .ok (.iload_n 3, 1) := by decide +kernel
theorem d_U_turnsLeft_36 : decode b_U_turnsLeft 36 = .ok (.invokevirtual 102, 3) := by decide +kernel
theorem d_U_turnsLeft_39 : decode b_U_turnsLeft 39 = .ok (.bipush 8, 2) := by decide +kernel
theorem d_U_turnsLeft_41 : decode b_U_turnsLeft 41 = .ok (.if_icmp .gt 7, 3) := by decide +kernel
theorem d_U_turnsLeft_44 : decode b_U_turnsLeft 44 = .ok (.iconst 1, 1) := by decide +kernel
theorem d_U_turnsLeft_45 : decode b_U_turnsLeft 45 = .ok (.goto 4, 3) := by decide +kernel
theorem d_U_turnsLeft_48 : decode b_U_turnsLeft 48 = .ok (.iconst 0, 1) := by decide +kernel
theorem d_U_turnsLeft_49 : decode b_U_turnsLeft 49 = .ok (.ireturn, 1) := by decide +kernel
theorem d_U_turnsLeft_50 : decode b_U_turnsLeft 50 = .ok (.iload_n 1, 1) := by decide +kernel
theorem d_U_turnsLeft_51 : decode b_U_turnsLeft 51 = .ok (.iload_n 2, 1) := by decide +kernel
theorem d_U_turnsLeft_52 : decode b_U_turnsLeft 52 = .ok (.iadd, 1) := by decide +kernel
theorem d_U_turnsLeft_53 : decode b_U_turnsLeft 53 = .ok (.iconst 1, 1) := by decide +kernel
theorem d_U_turnsLeft_54 : decode b_U_turnsLeft 54 = .ok (.iand, 1) := by decide +kernel
theorem d_U_turnsLeft_55 : decode b_U_turnsLeft 55 = .ok (.ifCond .ne 7, 3) := by decide +kernel
theorem d_U_turnsLeft_58 : decode b_U_turnsLeft 58 = .ok (.iconst 1, 1) := by decide +kernel
theorem d_U_turnsLeft_59 : decode b_U_turnsLeft 59 = .ok (.goto 4, 3) := by decide +kernel
theorem d_U_turnsLeft_62 : decode b_U_turnsLeft 62 = .ok (.iconst 0, 1) := by decide +kernel
theorem d_U_turnsLeft_63 : decode b_U_turnsLeft 63 = .ok (.ireturn, 1) := by decide +kernel
theorem d_U_directionFrom_0 : decode b_U_directionFrom 0 = .ok (.iload_n 3, 1) := by decide +kernel
theorem d_U_directionFrom_1 : decode b_U_directionFrom 1 = .ok (.iconst 3, 1) := by decide +kernel
theorem d_U_directionFrom_2 : decode b_U_directionFrom 2 = .ok (.iadd, 1) := by decide +kernel
theorem d_U_directionFrom_3 : decode b_U_directionFrom 3 = .ok (.iconst 3, 1) := by decide +kernel
theorem d_U_directionFrom_4 : decode b_U_directionFrom 4 = .ok (.iand, 1) := by decide +kernel
theorem d_U_directionFrom_5 : decode b_U_directionFrom 5 = .ok (.istore 6, 2) := by decide +kernel
theorem d_U_directionFrom_7 : decode b_U_directionFrom 7 = .ok (.iload_n 3, 1) := by decide +kernel
theorem d_U_directionFrom_8 : decode b_U_directionFrom 8 = .ok (.iconst 1, 1) := by decide +kernel
theorem d_U_directionFrom_9 : decode b_U_directionFrom 9 = .ok (.iadd, 1) := by decide +kernel
theorem d_U_directionFrom_10 : decode b_U_directionFrom 10 = .ok (.iconst 3, 1) := by decide +kernel
theorem d_U_directionFrom_11 : decode b_U_directionFrom 11 = .ok (.iand, 1) := by decide +kernel
theorem d_U_directionFrom_12 : decode b_U_directionFrom 12 = .ok (.istore 7, 2) := by decide +kernel
theorem d_U_directionFrom_14 : decode b_U_directionFrom 14 = .ok (.aload_n 0, 1) := by decide +kernel
theorem d_U_directionFrom_15 : decode b_U_directionFrom 15 = .ok (.getfield 9, 3) := by decide +kernel
theorem d_U_directionFrom_18 : decode b_U_directionFrom 18 = .ok (.iload_n 1, 1) := by decide +kernel
theorem d_U_directionFrom_19 : decode b_U_directionFrom 19 = .ok (.getstatic 92, 3) := by decide +kernel
theorem d_U_directionFrom_22 : decode b_U_directionFrom 22 = .ok (.iload_n 3, 1) := by decide +kernel
theorem d_U_directionFrom_23 : decode b_U_directionFrom 23 = .ok (.iaload, 1) := by decide +kernel
theorem d_U_directionFrom_24 : decode b_U_directionFrom 24 = .ok (.iadd, 1) := by decide +kernel
theorem d_U_directionFrom_25 : decode b_U_directionFrom 25 = .ok (.iload_n 2, 1) := by decide +kernel
theorem d_U_directionFrom_26 : decode b_U_directionFrom 26 = .ok (.getstatic 95, 3) := by decide +kernel
theorem d_U_directionFrom_29 : decode b_U_directionFrom 29 = .ok (.iload_n 3, 1) := by decide +kernel
theorem d_U_directionFrom_30 : decode b_U_directionFrom 30 = .ok (.iaload, 1) := by decide +kernel
theorem d_U_directionFrom_31 : decode b_U_directionFrom 31 = .ok (.iadd, 1) := by decide +kernel
theorem d_U_directionFrom_32 : decode b_U_directionFrom 32 = .ok (.iload 4, 2) := by decide +kernel
theorem d_U_directionFrom_34 : decode b_U_directionFrom 34 = .ok (.invokevirtual 75, 3) := by decide +kernel
theorem d_U_directionFrom_37 : decode b_U_directionFrom 37 = .ok (.istore 8, 2) := by decide +kernel
theorem d_U_directionFrom_39 : decode b_U_directionFrom 39 = .ok (.aload_n 0, 1) := by decide +kernel
theorem d_U_directionFrom_40 : decode b_U_directionFrom 40 = .ok (.getfield 9, 3) := by decide +kernel
theorem d_U_directionFrom_43 : decode b_U_directionFrom 43 = .ok (.iload_n 1, 1) := by decide +kernel
theorem d_U_directionFrom_44 : decode b_U_directionFrom 44 = .ok (.getstatic 92, 3) := by decide +kernel
theorem d_U_directionFrom_47 : decode b_U_directionFrom 47 = .ok (.iload 6, 2) := by decide +kernel
theorem d_U_directionFrom_49 : decode b_U_directionFrom 49 = .ok (.iaload, 1) := by decide +kernel
theorem d_U_directionFrom_50 : decode b_U_directionFrom 50 = .ok (.iadd, 1) := by decide +kernel
theorem d_U_directionFrom_51 : decode b_U_directionFrom 51 = .ok (.iload_n 2, 1) := by decide +kernel
theorem d_U_directionFrom_52 : decode b_U_directionFrom 52 = .ok (.getstatic 95, 3) := by decide +kernel
theorem d_U_directionFrom_55 : decode b_U_directionFrom 55 = .ok (.iload 6, 2) := by decide +kernel
theorem d_U_directionFrom_57 : decode b_U_directionFrom 57 = .ok (.iaload, 1) := by decide +kernel
theorem d_U_directionFrom_58 : decode b_U_directionFrom 58 = .ok (.iadd, 1) := by decide +kernel
theorem d_U_directionFrom_59 : decode b_U_directionFrom 59 = .ok (.iload 4, 2) := by decide +kernel
theorem d_U_directionFrom_61 : decode b_U_directionFrom 61 = .ok (.invokevirtual 75, 3) := by decide +kernel
theorem d_U_directionFrom_64 : decode b_U_directionFrom 64 = .ok (.istore 9, 2) := by decide +kernel
theorem d_U_directionFrom_66 : decode b_U_directionFrom 66 = .ok (.iload 8, 2) := by decide +kernel
theorem d_U_directionFrom_68 : decode b_U_directionFrom 68 = .ok (.ifCond .eq 15, 3) := by decide +kernel
theorem d_U_directionFrom_71 : decode b_U_directionFrom 71 = .ok (.iload 9, 2) := by decide +kernel
theorem d_U_directionFrom_73 : decode b_U_directionFrom 73 = .ok (.ifCond .eq 8, 3) := by decide +kernel
theorem d_U_directionFrom_76 : decode b_U_directionFrom 76 = .ok (.iload 6, 2) := by decide +kernel
theorem d_U_directionFrom_78 : decode b_U_directionFrom 78 = .ok (.goto 4, 3) := by decide +kernel
theorem d_U_directionFrom_81 : decode b_U_directionFrom 81 = .ok (.iload_n 3, 1) := by decide +kernel
theorem d_U_directionFrom_82 : decode b_U_directionFrom 82 = .ok (.ireturn, 1) := by decide +kernel
theorem d_U_directionFrom_83 : decode b_U_directionFrom 83 = .ok (.iload 9, 2) := by decide +kernel
theorem d_U_directionFrom_85 : decode b_U_directionFrom 85 = .ok (.ifCond .eq 21, 3) := by decide +kernel
theorem d_U_directionFrom_88 : decode b_U_directionFrom 88 = .ok (.aload_n 0, 1) := by decide +kernel
theorem d_U_directionFrom_89 : decode b_U_directionFrom 89 = .ok (.iload_n 1, 1) := by decide +kernel
theorem d_U_directionFrom_90 : decode b_U_directionFrom 90 = .ok (.iload_n 2, 1) := by decide +kernel
theorem d_U_directionFrom_91 : decode b_U_directionFrom 91 = .ok (.iload 4, 2) := by decide +kernel
theorem d_U_directionFrom_93 : decode b_U_directionFrom 93 = .ok (.iload 5, 2) := by decide +kernel
theorem d_U_directionFrom_95 : decode b_U_directionFrom 95 = .ok (.invokevirtual 98, 3) := by decide +kernel
theorem d_U_directionFrom_98 : decode b_U_directionFrom 98 = .ok (.ifCond .eq 8, 3) := by decide +kernel
theorem d_U_directionFrom_101 : decode b_U_directionFrom 101 = .ok (.iload 6, 2) := by decide +kernel
theorem d_U_directionFrom_103 : decode b_U_directionFrom 103 = .ok (.goto 5, 3) := by decide +kernel
theorem d_U_directionFrom_106 : decode b_U_directionFrom 106 = .ok (.iload 7, 2) := by decide +kernel
theorem d_U_directionFrom_108 : decode b_U_directionFrom 108 = .ok (.ireturn, 1) := by decide +kernel
theorem d_U_walk_0 : decode b_U_walk 0 = .ok (.iconst 0, 1) := by decide +kernel
theorem d_U_walk_1 : decode b_U_walk 1 = .ok (.istore 5, 2) := by decide +kernel
theorem d_U_walk_3 : decode b_U_walk 3 = .ok (.iload_n 1, 1) := by decide +kernel
theorem d_U_walk_4 : decode b_U_walk 4 = .ok (.istore 6, 2) := by decide +kernel
theorem d_U_walk_6 : decode b_U_walk 6 = .ok (.iload_n 2, 1) := by decide +kernel
theorem d_U_walk_7 : decode b_U_walk 7 = .ok (.istore 7, 2) := by decide +kernel
theorem d_U_walk_9 : decode b_U_walk 9 = .ok (.iconst 0, 1) := by decide +kernel
theorem d_U_walk_10 : decode b_U_walk 10 = .ok (.istore 8, 2) := by decide +kernel
theorem d_U_walk_12 : decode b_U_walk 12 = .ok (.aload_n 0, 1) := by decide +kernel
theorem d_U_walk_13 : decode b_U_walk 13 = .ok (.getfield 28, 3) := by decide +kernel
theorem d_U_walk_16 : decode b_U_walk 16 = .ok (.aload_n 0, 1) := by decide +kernel
theorem d_U_walk_17 : decode b_U_walk 17 = .ok (.getfield 52, 3) := by decide +kernel
theorem d_U_walk_20 : decode b_U_walk 20 = .ok (.iaload, 1) := by decide +kernel
theorem d_U_walk_21 : decode b_U_walk 21 = .ok (.istore 9, 2) := by decide +kernel
theorem d_U_walk_23 : decode b_U_walk 23 = .ok (.iconst 1, 1) := by decide +kernel
theorem d_U_walk_24 : decode b_U_walk 24 = .ok (.istore 10, 2) := by decide +kernel
theorem d_U_walk_26 : decode b_U_walk 26 = .ok (.iload 10, 2) := by decide +kernel
theorem d_U_walk_28 : decode b_U_walk 28 = .ok (.ifCond .eq 161, 3) := by decide +kernel
theorem d_U_walk_31 : decode b_U_walk 31 = .ok (.iload 9, 2) := by decide +kernel
theorem d_U_walk_33 : decode b_U_walk 33 = .ok (.aload_n 0, 1) := by decide +kernel
theorem d_U_walk_34 : decode b_U_walk 34 = .ok (.getfield 21, 3) := by decide +kernel
theorem d_U_walk_37 : decode b_U_walk 37 = .ok (.arraylength, 1) := by decide +kernel
theorem d_U_walk_38 : decode b_U_walk 38 = .ok (.if_icmp .ge 151, 3) := by decide +kernel
theorem d_U_walk_41 : decode b_U_walk 41 = .ok (.aload_n 0, 1) := by decide +kernel
theorem d_U_walk_42 : decode b_U_walk 42 = .ok (.getfield 21, 3) := by decide +kernel
theorem d_U_walk_45 : decode b_U_walk 45 = .ok (.iload 9, 2) := by decide +kernel
theorem d_U_walk_47 : decode b_U_walk 47 = .ok (.iload 6, 2) := by decide +kernel
theorem d_U_walk_49 : decode b_U_walk 49 = .ok (.i2b, 1) := by decide +kernel
theorem d_U_walk_50 : decode b_U_walk 50 = .ok (.bastore, 1) := by decide +kernel
theorem d_U_walk_51 : decode b_U_walk 51 = .ok (.aload_n 0, 1) := by decide +kernel
theorem d_U_walk_52 : decode b_U_walk 52 = .ok (.getfield 25, 3) := by decide +kernel
theorem d_U_walk_55 : decode b_U_walk 55 = .ok (.iload 9, 2) := by decide +kernel
theorem d_U_walk_57 : decode b_U_walk 57 = .ok (.iload 7, 2) := by decide +kernel
theorem d_U_walk_59 : decode b_U_walk 59 = .ok (.i2b, 1) := by decide +kernel
theorem d_U_walk_60 : decode b_U_walk 60 = .ok (.bastore, 1) := by decide +kernel
theorem d_U_walk_61 : decode b_U_walk 61 = .ok (.iinc 9 1, 3) := by decide +kernel
theorem d_U_walk_64 : decode b_U_walk 64 = .ok (.iload 8, 2) := by decide +kernel
theorem d_U_walk_66 : decode b_U_walk 66 = .ok (.ifCond .ne 46, 3) := by decide +kernel
theorem d_U_walk_69 : decode b_U_walk 69 = .ok (.aload_n 0, 1) := by decide +kernel
theorem d_U_walk_70 : decode b_U_walk 70 = .ok (.getfield 9, 3) := by decide +kernel
theorem d_U_walk_73 : decode b_U_walk 73 = .ok (.iload 6, 2) := by decide +kernel
theorem d_U_walk_75 : decode b_U_walk 75 = .ok (.iload 7, 2) := by decide +kernel
theorem d_U_walk_77 : decode b_U_walk 77 = .ok (.invokevirtual 78, 3) := by decide +kernel
theorem d_U_walk_80 : decode b_U_walk 80 = .ok (.ifCond .eq 32, 3) := by decide +kernel
theorem d_U_walk_83 : decode b_U_walk 83 = .ok (.aload_n 0, 1) := by decide +kernel
theorem d_U_walk_84 : decode b_U_walk 84 = .ok (.getfield 45, 3) := by decide +kernel
theorem d_U_walk_87 : decode b_U_walk 87 = .ok (.iload 7, 2) := by decide +kernel
theorem d_U_walk_89 : decode b_U_walk 89 = .ok (.aload_n 0, 1) := by decide +kernel
theorem d_U_walk_90 : decode b_U_walk 90 = .ok (.getfield 9, 3) := by decide +kernel
theorem d_U_walk_93 : decode b_U_walk 93 = .ok (.getfield 38, 3) := by decide +kernel
theorem d_U_walk_96 : decode b_U_walk 96 = .ok (.imul, 1) := by decide +kernel
theorem d_U_walk_97 : decode b_U_walk 97 = .ok (.iload 6, 2) := by decide +kernel
theorem d_U_walk_99 : decode b_U_walk 99 = .ok (.iadd, 1) := by decide +kernel
theorem d_U_walk_100 : decode b_U_walk 100 = .ok (.iconst 1, 1) := by decide +kernel
theorem d_U_walk_101 : decode b_U_walk 101 = .ok (.bastore, 1) := by decide +kernel
theorem d_U_walk_102 : decode b_U_walk 102 = .ok (.iload 5, 2) := by decide +kernel
theorem d_U_walk_104 : decode b_U_walk 104 = .ok (.iload 7, 2) := by decide +kernel
theorem d_U_walk_106 : decode b_U_walk 106 = .ok (.isub, 1) := by decide +kernel
theorem d_U_walk_107 : decode b_U_walk 107 = .ok (.istore 5, 2) := by decide +kernel
theorem d_U_walk_109 : decode b_U_walk 109 = .ok (.goto 16, 3) := by decide +kernel
theorem d_U_walk_112 : decode b_U_walk 112 = .ok (.iload 8, 2) := by decide +kernel
theorem d_U_walk_114 : decode b_U_walk 114 = .ok (.iconst 2, 1) := by decide +kernel
theorem d_U_walk_115 : decode b_U_walk 115 = .ok (.if_icmp .ne 10, 3) := by decide +kernel
theorem d_U_walk_118 : decode b_U_walk 118 = .ok (.iload 5, 2) := by decide +kernel
theorem d_U_walk_120 : decode b_U_walk 120 = .ok (.iload 7, 2) := by decide +kernel
theorem d_U_walk_122 : decode b_U_walk 122 = .ok (.iadd, 1) := by decide +kernel
theorem d_U_walk_123 : decode b_U_walk 123 = .ok (.istore 5, 2) := by decide +kernel
theorem d_U_walk_125 : decode b_U_walk 125 = .ok (.iload 6, 2) := by decide +kernel
theorem d_U_walk_127 : decode b_U_walk 127 = .ok (.getstatic 82, 3) := by decide +kernel
theorem d_U_walk_130 : decode b_U_walk 130 = .ok (.iload 8, 2) := by decide +kernel
theorem d_U_walk_132 : decode b_U_walk 132 = .ok (.iaload, 1) := by decide +kernel
theorem d_U_walk_133 : decode b_U_walk 133 = .ok (.iadd, 1) := by decide +kernel
theorem d_U_walk_134 : decode b_U_walk 134 = .ok (.istore 6, 2) := by decide +kernel
theorem d_U_walk_136 : decode b_U_walk 136 = .ok (.iload 7, 2) := by decide +kernel
theorem d_U_walk_138 : decode b_U_walk 138 = .ok (.getstatic 85, 3) := by decide +kernel
theorem d_U_walk_141 : decode b_U_walk 141 = .ok (.iload 8, 2) := by decide +kernel
theorem d_U_walk_143 : decode b_U_walk 143 = .ok (.iaload, 1) := by decide +kernel
theorem d_U_walk_144 : decode b_U_walk 144 = .ok (.iadd, 1) := by decide +kernel
theorem d_U_walk_145 : decode b_U_walk 145 = .ok (.istore 7, 2) := by decide +kernel
theorem d_U_walk_147 : decode b_U_walk 147 = .ok (.aload_n 0, 1) := by decide +kernel
theorem d_U_walk_148 : decode b_U_walk 148 = .ok (.iload 6, 2) := by decide +kernel
theorem d_U_walk_150 : decode b_U_walk 150 = .ok (.iload 7, 2) := by decide +kernel
theorem d_U_walk_152 : decode b_U_walk 152 = .ok (.iload 8, 2) := by decide +kernel
theorem d_U_walk_154 : decode b_U_walk 154 = .ok (.iload_n 3, 1) := by decide +kernel
theorem d_U_walk_155 : decode b_U_walk 155 = .ok (.iload 4, 2) := by decide +kernel
theorem d_U_walk_157 : decode b_U_walk 157 = .ok (.invokevirtual 88, 3) := by decide +kernel
theorem d_U_walk_160 : decode b_U_walk 160 = .ok (.istore 8, 2) := by decide +kernel
theorem d_U_walk_162 : decode b_U_walk 162 = .ok (.iload 6, 2) := by decide +kernel
theorem d_U_walk_164 : decode b_U_walk 164 = .ok (.iload_n 1, 1) := by decide +kernel
theorem d_U_walk_165 : decode b_U_walk 165 = .ok (.if_icmp .ne 14, 3) := by decide +kernel
theorem d_U_walk_168 : decode b_U_walk 168 = .ok (.iload 7, 2) := by decide +kernel
theorem d_U_walk_170 : decode b_U_walk 170 = .ok (.iload_n 2, 1) := by decide +kernel
theorem d_U_walk_171 : decode b_U_walk 171 = .ok (.if_icmp .ne 8, 3) := by decide +kernel
theorem d_U_walk_174 : decode b_U_walk 174 = .ok (.iload 8, 2) := by decide +kernel
theorem d_U_walk_176 : decode b_U_walk 176 = .ok (.ifCond .eq 7, 3) := by decide +kernel
theorem d_U_walk_179 : decode b_U_walk 179 = .ok (.iconst 1, 1) := by decide +kernel
theorem d_U_walk_180 : decode b_U_walk 180 = .ok (.goto 4, 3) := by decide +kernel
theorem d_U_walk_183 : decode b_U_walk 183 = .ok (.iconst 0, 1) := by decide +kernel
theorem d_U_walk_184 : decode b_U_walk 184 = .ok (.istore 10, 2) := by decide +kernel
theorem d_U_walk_186 : decode b_U_walk 186 = .ok (.goto (-160), 3) := by decide +kernel
theorem d_U_walk_189 : decode b_U_walk 189 = .ok (.aload_n 0, 1) := by decide +kernel
theorem d_U_walk_190 : decode b_U_walk 190 = .ok (.getfield 32, 3) := by decide +kernel
theorem d_U_walk_193 : decode b_U_walk 193 = .ok (.aload_n 0, 1) := by decide +kernel
theorem d_U_walk_194 : decode b_U_walk 194 = .ok (.getfield 52, 3) := by decide +kernel
theorem d_U_walk_197 : decode b_U_walk 197 = .ok (.iload_n 3, 1) := by decide +kernel
theorem d_U_walk_198 : decode b_U_walk 198 = .ok (.i2b, 1) := by decide +kernel
theorem d_U_walk_199 : decode b_U_walk 199 = .ok (.bastore, 1) := by decide +kernel
theorem d_U_walk_200 : decode b_U_walk 200 = .ok (.aload_n 0, 1) := by decide +kernel
theorem d_U_walk_201 : decode b_U_walk 201 = .ok (.getfield 35, 3) := by decide +kernel
theorem d_U_walk_204 : decode b_U_walk 204 = .ok (.aload_n 0, 1) := by decide +kernel
theorem d_U_walk_205 : decode b_U_walk 205 = .ok (.getfield 52, 3) := by decide +kernel
theorem d_U_walk_208 : decode b_U_walk 208 = .ok (.iload 5, 2) := by decide +kernel
theorem d_U_walk_210 : decode b_U_walk 210 = .ok (.iastore, 1) := by decide +kernel
theorem d_U_walk_211 : decode b_U_walk 211 = .ok (.aload_n 0, 1) := by decide +kernel
theorem d_U_walk_212 : decode b_U_walk 212 = .ok (.getfield 28, 3) := by decide +kernel
theorem d_U_walk_215 : decode b_U_walk 215 = .ok (.aload_n 0, 1) := by decide +kernel
theorem d_U_walk_216 : decode b_U_walk 216 = .ok (.getfield 52, 3) := by decide +kernel
theorem d_U_walk_219 : decode b_U_walk 219 = .ok (.iconst 1, 1) := by decide +kernel
theorem d_U_walk_220 : decode b_U_walk 220 = .ok (.iadd, 1) := by decide +kernel
theorem d_U_walk_221 : decode b_U_walk 221 = .ok (.iload 9, 2) := by decide +kernel
theorem d_U_walk_223 : decode b_U_walk 223 = .ok (.iastore, 1) := by decide +kernel
theorem d_U_walk_224 : decode b_U_walk 224 = .ok (.return_, 1) := by decide +kernel
theorem d_U_addLayer_0 : decode b_U_addLayer 0 = .ok (.aload_n 0, 1) := by decide +kernel
theorem d_U_addLayer_1 : decode b_U_addLayer 1 = .ok (.iconst 1, 1) := by decide +kernel
theorem d_U_addLayer_2 : decode b_U_addLayer 2 = .ok (.putfield 48, 3) := by decide +kernel
theorem d_U_addLayer_5 : decode b_U_addLayer 5 = .ok (.aload_n 0, 1) := by decide +kernel
theorem d_U_addLayer_6 : decode b_U_addLayer 6 = .ok (.getfield 45, 3) := by decide +kernel
theorem d_U_addLayer_9 : decode b_U_addLayer 9 = .ok (.iconst 0, 1) := by decide +kernel
theorem d_U_addLayer_10 : decode b_U_addLayer 10 = .ok (.invokestatic 55, 3) := by decide +kernel
theorem d_U_addLayer_13 : decode b_U_addLayer 13 = .ok (.iconst 0, 1) := by decide +kernel
theorem d_U_addLayer_14 : decode b_U_addLayer 14 = .ok (.istore 4, 2) := by decide +kernel
theorem d_U_addLayer_16 : decode b_U_addLayer 16 = .ok (.iload 4, 2) := by decide +kernel
theorem d_U_addLayer_18 : decode b_U_addLayer 18 = .ok (.aload_n 0, 1) := by decide +kernel
theorem d_U_addLayer_19 : decode b_U_addLayer 19 = .ok (.getfield 9, 3) := by decide +kernel
theorem d_U_addLayer_22 : decode b_U_addLayer 22 = .ok (.getfield 42, 3) := by decide +kernel
theorem d_U_addLayer_25 : decode b_U_addLayer 25 = .ok (.if_icmp .ge 90, 3) := by decide +kernel
theorem d_U_addLayer_28 : decode b_U_addLayer 28 = .ok (.iconst 0, 1) := by decide +kernel
theorem d_U_addLayer_29 : decode b_U_addLayer 29 = .ok (.istore 5, 2) := by decide +kernel
theorem d_U_addLayer_31 : decode b_U_addLayer 31 = .ok (.iload 5, 2) := by decide +kernel
theorem d_U_addLayer_33 : decode b_U_addLayer 33 = .ok (.aload_n 0, 1) := by decide +kernel
theorem d_U_addLayer_34 : decode b_U_addLayer 34 = .ok (.getfield 9, 3) := by decide +kernel
theorem d_U_addLayer_37 : decode b_U_addLayer 37 = .ok (.getfield 38, 3) := by decide +kernel
theorem d_U_addLayer_40 : decode b_U_addLayer 40 = .ok (.if_icmp .ge 69, 3) := by decide +kernel
theorem d_U_addLayer_43 : decode b_U_addLayer 43 = .ok (.aload_n 0, 1) := by decide +kernel
theorem d_U_addLayer_44 : decode b_U_addLayer 44 = .ok (.iload 5, 2) := by decide +kernel
theorem d_U_addLayer_46 : decode b_U_addLayer 46 = .ok (.iload 4, 2) := by decide +kernel
theorem d_U_addLayer_48 : decode b_U_addLayer 48 = .ok (.iload_n 1, 1) := by decide +kernel
theorem d_U_addLayer_49 : decode b_U_addLayer 49 = .ok (.invokevirtual 61, 3) := by decide +kernel
theorem d_U_addLayer_52 : decode b_U_addLayer 52 = .ok (.ifCond .eq 51, 3) := by decide +kernel
theorem d_U_addLayer_55 : decode b_U_addLayer 55 = .ok (.aload_n 0, 1) := by decide +kernel
theorem d_U_addLayer_56 : decode b_U_addLayer 56 = .ok (.getfield 52, 3) := by decide +kernel
theorem d_U_addLayer_59 : decode b_U_addLayer 59 = .ok (.aload_n 0, 1) := by decide +kernel
theorem d_U_addLayer_60 : decode b_U_addLayer 60 = .ok (.getfield 32, 3) := by decide +kernel
theorem d_U_addLayer_63 : decode b_U_addLayer 63 = .ok (.arraylength, 1) := by decide +kernel
theorem d_U_addLayer_64 : decode b_U_addLayer 64 = .ok (.if_icmp .ge 39, 3) := by decide +kernel
theorem d_U_addLayer_67 : decode b_U_addLayer 67 = .ok (.aload_n 0, 1) := by decide +kernel
theorem d_U_addLayer_68 : decode b_U_addLayer 68 = .ok (.iload 5, 2) := by decide +kernel
theorem d_U_addLayer_70 : decode b_U_addLayer 70 = .ok (.iload 4, 2) := by decide +kernel
theorem d_U_addLayer_72 : decode b_U_addLayer 72 = .ok (.iload_n 1, 1) := by decide +kernel
theorem d_U_addLayer_73 : decode b_U_addLayer 73 = .ok (.iload_n 2, 1) := by decide +kernel
theorem d_U_addLayer_74 : decode b_U_addLayer 74 = .ok (.invokevirtual 65, 3) := by decide +kernel
theorem d_U_addLayer_77 : decode b_U_addLayer 77 = .ok (.aload_n 0, 1) := by decide +kernel
theorem d_U_addLayer_78 : decode b_U_addLayer 78 = .ok (.getfield 35, 3) := by decide +kernel
theorem d_U_addLayer_81 : decode b_U_addLayer 81 = .ok (.aload_n 0, 1) := by decide +kernel
theorem d_U_addLayer_82 : decode b_U_addLayer 82 = .ok (.getfield 52, 3) := by decide +kernel
theorem d_U_addLayer_85 : decode b_U_addLayer 85 = .ok (.iaload, 1) := by decide +kernel
theorem d_U_addLayer_86 : decode b_U_addLayer 86 = .ok (.invokestatic 69, 3) := by decide +kernel
theorem d_U_addLayer_89 : decode b_U_addLayer 89 = .ok (.iload_n 3, 1) := by decide +kernel
theorem d_U_addLayer_90 : decode b_U_addLayer 90 = .ok (.if_icmp .le 13, 3) := by decide +kernel
theorem d_U_addLayer_93 : decode b_U_addLayer 93 = .ok (.aload_n 0, 1) := by decide +kernel
theorem d_U_addLayer_94 : decode b_U_addLayer 94 = .ok (.dup, 1) := by decide +kernel
theorem d_U_addLayer_95 : decode b_U_addLayer 95 = .ok (.getfield 52, 3) := by decide +kernel
theorem d_U_addLayer_98 : decode b_U_addLayer 98 = .ok (.iconst 1, 1) := by decide +kernel
theorem d_U_addLayer_99 : decode b_U_addLayer 99 = .ok (.iadd, 1) := by decide +kernel
theorem d_U_addLayer_100 : decode b_U_addLayer 100 = .ok (.putfield 52, 3) := by decide +kernel
theorem d_U_addLayer_103 : decode b_U_addLayer 103 = .ok (.iinc 5 1, 3) := by decide +kernel
theorem d_U_addLayer_106 : decode b_U_addLayer 106 = .ok (.goto (-75), 3) := by decide +kernel
theorem d_U_addLayer_109 : decode b_U_addLayer 109 = .ok (.iinc 4 1, 3) := by decide +kernel
theorem d_U_addLayer_112 : decode b_U_addLayer 112 = .ok (.goto (-96), 3) := by decide +kernel
theorem d_U_addLayer_115 : decode b_U_addLayer 115 = .ok (.return_, 1) := by decide +kernel
theorem d_O_trace_0 : decode b_O_trace 0 = .ok (.iload_n 1, 1) := by decide +kernel
theorem d_O_trace_1 : decode b_O_trace 1 = .ok (.iconst 0, 1) := by decide +kernel
theorem d_O_trace_2 : decode b_O_trace 2 = .ok (.iconst 3, 1) := by decide +kernel
theorem d_O_trace_3 : decode b_O_trace 3 = .ok (.invokestatic 55, 3) := by decide +kernel
theorem d_O_trace_6 : decode b_O_trace 6 = .ok (.iload_n 2, 1) := by decide +kernel
theorem d_O_trace_7 : decode b_O_trace 7 = .ok (.iconst 0, 1) := by decide +kernel
theorem d_O_trace_8 : decode b_O_trace 8 = .ok (.sipush 256, 3) := by decide +kernel
theorem d_O_trace_11 : decode b_O_trace 11 = .ok (.invokestatic 55, 3) := by decide +kernel
theorem d_O_trace_14 : decode b_O_trace 14 = .ok (.aload_n 0, 1) := by decide +kernel
theorem d_O_trace_15 : decode b_O_trace 15 = .ok (.invokevirtual 63, 3) := by decide +kernel
theorem d_O_trace_18 : decode b_O_trace 18 = .ok (.iconst 1, 1) := by decide +kernel
theorem d_O_trace_19 : decode b_O_trace 19 = .ok (.istore_n 3, 1) := by decide +kernel
theorem d_O_trace_20 : decode b_O_trace 20 = .ok (.iload_n 3, 1) := by decide +kernel
theorem d_O_trace_21 : decode b_O_trace 21 = .ok (.bipush 7, 2) := by decide +kernel
theorem d_O_trace_23 : decode b_O_trace 23 = .ok (.if_icmp .gt 19, 3) := by decide +kernel
theorem d_O_trace_26 : decode b_O_trace 26 = .ok (.aload_n 0, 1) := by decide +kernel
theorem d_O_trace_27 : decode b_O_trace 27 = .ok (.getfield 23, 3) := by decide +kernel
theorem d_O_trace_30 : decode b_O_trace 30 = .ok (.iload_n 3, 1) := by decide +kernel
theorem d_O_trace_31 : decode b_O_trace 31 = .ok (.iload_n 1, 1) := by decide +kernel
theorem d_O_trace_32 : decode b_O_trace 32 = .ok (.iload_n 2, 1) := by decide +kernel
theorem d_O_trace_33 : decode b_O_trace 33 = .ok (.invokevirtual 66, 3) := by decide +kernel
theorem d_O_trace_36 : decode b_O_trace 36 = .ok (.iinc 3 1, 3) := by decide +kernel
theorem d_O_trace_39 : decode b_O_trace 39 = .ok (.goto (-19), 3) := by decide +kernel
theorem d_O_trace_42 : decode b_O_trace 42 = .ok (.aload_n 0, 1) := by decide +kernel
theorem d_O_trace_43 : decode b_O_trace 43 = .ok (.getfield 23, 3) := by decide +kernel
theorem d_O_trace_46 : decode b_O_trace 46 = .ok (.getfield 69, 3) := by decide +kernel
theorem d_O_trace_49 : decode b_O_trace 49 = .ok (.ireturn, 1) := by decide +kernel
theorem d_O_requireTraced_0 : decode b_O_requireTraced 0 = .ok (.aload_n 0, 1) := by decide +kernel
theorem d_O_requireTraced_1 : decode b_O_requireTraced 1 = .ok (.getfield 23, 3) := by decide +kernel
theorem d_O_requireTraced_4 : decode b_O_requireTraced 4 = .ok (.getfield 192, 3) := by decide +kernel
theorem d_O_requireTraced_7 : decode b_O_requireTraced 7 = .ok (.ifCond .ne 13, 3) := by decide +kernel
theorem d_O_requireTraced_10 : decode b_O_requireTraced 10 = .ok (.new 196, 3) := by decide +kernel
theorem d_O_requireTraced_13 : decode b_O_requireTraced 13 = .ok (.dup, 1) := by decide +kernel
theorem d_O_requireTraced_14 : decode b_O_requireTraced 14 = .ok (.ldc 198, 2) := by decide +kernel
theorem d_O_requireTraced_16 : decode b_O_requireTraced 16 = .ok (.invokespecial 200, 3) := by decide +kernel
theorem d_O_requireTraced_19 : decode b_O_requireTraced 19 = .ok (.athrow, 1) := by decide +kernel
theorem d_O_requireTraced_20 : decode b_O_requireTraced 20 = .ok (.return_, 1) := by decide +kernel
theorem d_O_requireIndex_0 : decode b_O_requireIndex 0 = .ok (.iload_n 0, 1) := by decide +kernel
theorem d_O_requireIndex_1 : decode b_O_requireIndex 1 = .ok (.ifCond .lt 8, 3) := by decide +kernel
theorem d_O_requireIndex_4 : decode b_O_requireIndex 4 = .ok (.iload_n 0, 1) := by decide +kernel
theorem d_O_requireIndex_5 : decode b_O_requireIndex 5 = .ok (.iload_n 1, 1) := by decide +kernel
theorem d_O_requireIndex_6 : decode b_O_requireIndex 6 = .ok (.if_icmp .lt 13, 3) := by decide +kernel
theorem d_O_requireIndex_9 : decode b_O_requireIndex 9 = .ok (.new 185, 3) := by decide +kernel
theorem d_O_requireIndex_12 : decode b_O_requireIndex 12 = .ok (.dup, 1) := by decide +kernel
theorem d_O_requireIndex_13 : decode b_O_requireIndex 13 = .ok (.ldc 205, 2) := by decide +kernel
theorem d_O_requireIndex_15 : decode b_O_requireIndex 15 = .ok (.invokespecial 189, 3) := by decide +kernel
theorem d_O_requireIndex_18 : decode b_O_requireIndex 18 = .ok (.athrow, 1) := by decide +kernel
theorem d_O_requireIndex_19 : decode b_O_requireIndex 19 = .ok (.return_, 1) := by decide +kernel
theorem d_U_uprightsLeftOf_0 : decode b_U_uprightsLeftOf 0 = .ok (.aload_n 0, 1) := by decide +kernel
theorem d_U_uprightsLeftOf_1 : decode b_U_uprightsLeftOf 1 = .ok (.getfield 28, 3) := by decide +kernel
theorem d_U_uprightsLeftOf_4 : decode b_U_uprightsLeftOf 4 = .ok (.iload_n 1, 1) := by decide +kernel
theorem d_U_uprightsLeftOf_5 : decode b_U_uprightsLeftOf 5 = .ok (.iconst 1, 1) := by decide +kernel
theorem d_U_uprightsLeftOf_6 : decode b_U_uprightsLeftOf 6 = .ok (.iadd, 1) := by decide +kernel
theorem d_U_uprightsLeftOf_7 : decode b_U_uprightsLeftOf 7 = .ok (.iaload, 1) := by decide +kernel
theorem d_U_uprightsLeftOf_8 : decode b_U_uprightsLeftOf 8 = .ok (.istore 4, 2) := by decide +kernel
theorem d_U_uprightsLeftOf_10 : decode b_U_uprightsLeftOf 10 = .ok (.iload 4, 2) := by decide +kernel
theorem d_U_uprightsLeftOf_12 : decode b_U_uprightsLeftOf 12 = .ok (.iconst 1, 1) := by decide +kernel
theorem d_U_uprightsLeftOf_13 : decode b_U_uprightsLeftOf 13 = .ok (.isub, 1) := by decide +kernel
theorem d_U_uprightsLeftOf_14 : decode b_U_uprightsLeftOf 14 = .ok (.istore 5, 2) := by decide +kernel
theorem d_U_uprightsLeftOf_16 : decode b_U_uprightsLeftOf 16 = .ok (.iconst 0, 1) := by decide +kernel
theorem d_U_uprightsLeftOf_17 : decode b_U_uprightsLeftOf 17 = .ok (.istore 6, 2) := by decide +kernel
theorem d_U_uprightsLeftOf_19 : decode b_U_uprightsLeftOf 19 = .ok (.aload_n 0, 1) := by decide +kernel
theorem d_U_uprightsLeftOf_20 : decode b_U_uprightsLeftOf 20 = .ok (.getfield 28, 3) := by decide +kernel
theorem d_U_uprightsLeftOf_23 : decode b_U_uprightsLeftOf 23 = .ok (.iload_n 1, 1) := by decide +kernel
theorem d_U_uprightsLeftOf_24 : decode b_U_uprightsLeftOf 24 = .ok (.iaload, 1) := by decide +kernel
theorem d_U_uprightsLeftOf_25 : decode b_U_uprightsLeftOf 25 = .ok (.istore 7, 2) := by decide +kernel
theorem d_U_uprightsLeftOf_27 : decode b_U_uprightsLeftOf 27 = .ok (.iload 7, 2) := by decide +kernel
theorem d_U_uprightsLeftOf_29 : decode b_U_uprightsLeftOf 29 = .ok (.iload 4, 2) := by decide +kernel
theorem d_U_uprightsLeftOf_31 : decode b_U_uprightsLeftOf 31 = .ok (.if_icmp .ge 65, 3) := by decide +kernel
theorem d_U_uprightsLeftOf_34 : decode b_U_uprightsLeftOf 34 = .ok (.aload_n 0, 1) := by decide +kernel
theorem d_U_uprightsLeftOf_35 : decode b_U_uprightsLeftOf 35 = .ok (.getfield 21, 3) := by decide +kernel
theorem d_U_uprightsLeftOf_38 : decode b_U_uprightsLeftOf 38 = .ok (.iload 7, 2) := by decide +kernel
theorem d_U_uprightsLeftOf_40 : decode b_U_uprightsLeftOf 40 = .ok (.baload, 1) := by decide +kernel
theorem d_U_uprightsLeftOf_41 : decode b_U_uprightsLeftOf 41 = .ok (.iload_n 2, 1) := by decide +kernel
theorem d_U_uprightsLeftOf_42 : decode b_U_uprightsLeftOf 42 = .ok (.if_icmp .gt 44, 3) := by decide +kernel
theorem d_U_uprightsLeftOf_45 : decode b_U_uprightsLeftOf 45 = .ok (.aload_n 0, 1) := by decide +kernel
theorem d_U_uprightsLeftOf_46 : decode b_U_uprightsLeftOf 46 = .ok (.getfield 21, 3) := by decide +kernel
theorem d_U_uprightsLeftOf_49 : decode b_U_uprightsLeftOf 49 = .ok (.iload 7, 2) := by decide +kernel
theorem d_U_uprightsLeftOf_51 : decode b_U_uprightsLeftOf 51 = .ok (.baload, 1) := by decide +kernel
theorem d_U_uprightsLeftOf_52 : decode b_U_uprightsLeftOf 52 = .ok (.aload_n 0, 1) := by decide +kernel
theorem d_U_uprightsLeftOf_53 : decode b_U_uprightsLeftOf 53 = .ok (.getfield 21, 3) := by decide +kernel
theorem d_U_uprightsLeftOf_56 : decode b_U_uprightsLeftOf 56 = .ok (.iload 5, 2) := by decide +kernel
theorem d_U_uprightsLeftOf_58 : decode b_U_uprightsLeftOf 58 = .ok (.baload, 1) := by decide +kernel
theorem d_U_uprightsLeftOf_59 : decode b_U_uprightsLeftOf 59 = .ok (.if_icmp .ne 27, 3) := by decide +kernel
theorem d_U_uprightsLeftOf_62 : decode b_U_uprightsLeftOf 62 = .ok (.aload_n 0, 1) := by decide +kernel
theorem d_U_uprightsLeftOf_63 : decode b_U_uprightsLeftOf 63 = .ok (.getfield 25, 3) := by decide +kernel
theorem d_U_uprightsLeftOf_66 : decode b_U_uprightsLeftOf 66 = .ok (.iload 7, 2) := by decide +kernel
theorem d_U_uprightsLeftOf_68 : decode b_U_uprightsLeftOf 68 = .ok (.baload, 1) := by decide +kernel
theorem d_U_uprightsLeftOf_69 : decode b_U_uprightsLeftOf 69 = .ok (.aload_n 0, 1) := by decide +kernel
theorem d_U_uprightsLeftOf_70 : decode b_U_uprightsLeftOf 70 = .ok (.getfield 25, 3) := by decide +kernel
theorem d_U_uprightsLeftOf_73 : decode b_U_uprightsLeftOf 73 = .ok (.iload 5, 2) := by decide +kernel
theorem d_U_uprightsLeftOf_75 : decode b_U_uprightsLeftOf 75 = .ok (.baload, 1) := by decide +kernel
theorem d_U_uprightsLeftOf_76 : decode b_U_uprightsLeftOf 76 = .ok (.invokestatic 112, 3) := by decide +kernel
theorem d_U_uprightsLeftOf_79 : decode b_U_uprightsLeftOf 79 = .ok (.iload_n 3, 1) := by decide +kernel
theorem d_U_uprightsLeftOf_80 : decode b_U_uprightsLeftOf 80 = .ok (.if_icmp .ne 6, 3) := by decide +kernel
theorem d_U_uprightsLeftOf_83 : decode b_U_uprightsLeftOf 83 = .ok (.iinc 6 1, 3) := by decide +kernel
theorem d_U_uprightsLeftOf_86 : decode b_U_uprightsLeftOf 86 = .ok (.iload 7, 2) := by decide +kernel
theorem d_U_uprightsLeftOf_88 : decode b_U_uprightsLeftOf 88 = .ok (.istore 5, 2) := by decide +kernel
theorem d_U_uprightsLeftOf_90 : decode b_U_uprightsLeftOf 90 = .ok (.iinc 7 1, 3) := by decide +kernel
theorem d_U_uprightsLeftOf_93 : decode b_U_uprightsLeftOf 93 = .ok (.goto (-66), 3) := by decide +kernel
theorem d_U_uprightsLeftOf_96 : decode b_U_uprightsLeftOf 96 = .ok (.iload 6, 2) := by decide +kernel
theorem d_U_uprightsLeftOf_98 : decode b_U_uprightsLeftOf 98 = .ok (.ireturn, 1) := by decide +kernel
theorem d_U_outlineRound_0 : decode b_U_outlineRound 0 = .ok (.aload_n 0, 1) := by decide +kernel
theorem d_U_outlineRound_1 : decode b_U_outlineRound 1 = .ok (.getfield 35, 3) := by decide +kernel
theorem d_U_outlineRound_4 : decode b_U_outlineRound 4 = .ok (.iload_n 1, 1) := by decide +kernel
theorem d_U_outlineRound_5 : decode b_U_outlineRound 5 = .ok (.iaload, 1) := by decide +kernel
theorem d_U_outlineRound_6 : decode b_U_outlineRound 6 = .ok (.ifCond .ge 7, 3) := by decide +kernel
theorem d_U_outlineRound_9 : decode b_U_outlineRound 9 = .ok (.iconst 1, 1) := by decide +kernel
theorem d_U_outlineRound_10 : decode b_U_outlineRound 10 = .ok (.goto 4, 3) := by decide +kernel
theorem d_U_outlineRound_13 : decode b_U_outlineRound 13 = .ok (.iconst 0, 1) := by decide +kernel
theorem d_U_outlineRound_14 : decode b_U_outlineRound 14 = .ok (.istore_n 2, 1) := by decide +kernel
theorem d_U_outlineRound_15 : decode b_U_outlineRound 15 = .ok (.aload_n 0, 1) := by decide +kernel
theorem d_U_outlineRound_16 : decode b_U_outlineRound 16 = .ok (.getfield 21, 3) := by decide +kernel
theorem d_U_outlineRound_19 : decode b_U_outlineRound 19 = .ok (.aload_n 0, 1) := by decide +kernel
theorem d_U_outlineRound_20 : decode b_U_outlineRound 20 = .ok (.getfield 28, 3) := by decide +kernel
theorem d_U_outlineRound_23 : decode b_U_outlineRound 23 = .ok (.iload_n 1, 1) := by decide +kernel
theorem d_U_outlineRound_24 : decode b_U_outlineRound 24 = .ok (.iaload, 1) := by decide +kernel
theorem d_U_outlineRound_25 : decode b_U_outlineRound 25 = .ok (.baload, 1) := by decide +kernel
theorem d_U_outlineRound_26 : decode b_U_outlineRound 26 = .ok (.istore_n 3, 1) := by decide +kernel
theorem d_U_outlineRound_27 : decode b_U_outlineRound 27 = .ok (.aload_n 0, 1) := by decide +kernel
theorem d_U_outlineRound_28 : decode b_U_outlineRound 28 = .ok (.getfield 25, 3) := by decide +kernel
theorem d_U_outlineRound_31 : decode b_U_outlineRound 31 = .ok (.aload_n 0, 1) := by decide +kernel
theorem d_U_outlineRound_32 : decode b_U_outlineRound 32 = .ok (.getfield 28, 3) := by decide +kernel
theorem d_U_outlineRound_35 : decode b_U_outlineRound 35 = .ok (.iload_n 1, 1) := by decide +kernel
theorem d_U_outlineRound_36 : decode b_U_outlineRound 36 = .ok (.iaload, 1) := by decide +kernel
theorem d_U_outlineRound_37 : decode b_U_outlineRound 37 = .ok (.baload, 1) := by decide +kernel
theorem d_U_outlineRound_38 : decode b_U_outlineRound 38 = .ok (.iload_n 2, 1) := by decide +kernel
theorem d_U_outlineRound_39 : decode b_U_outlineRound 39 = .ok (.ifCond .eq 7, 3) := by decide +kernel
theorem d_U_outlineRound_42 : decode b_U_outlineRound 42 = .ok (.iconst 0, 1) := by decide +kernel
theorem d_U_outlineRound_43 : decode b_U_outlineRound 43 = .ok (.goto 4, 3) := by decide +kernel
theorem d_U_outlineRound_46 : decode b_U_outlineRound 46 = .ok (.iconst 1, 1) := by decide +kernel
theorem d_U_outlineRound_47 : decode b_U_outlineRound 47 = .ok (.isub, 1) := by decide +kernel
theorem d_U_outlineRound_48 : decode b_U_outlineRound 48 = .ok (.istore 4, 2) := by decide +kernel
theorem d_U_outlineRound_50 : decode b_U_outlineRound 50 = .ok (.iconst (-1), 1) := by decide +kernel
theorem d_U_outlineRound_51 : decode b_U_outlineRound 51 = .ok (.istore 5, 2) := by decide +kernel
theorem d_U_outlineRound_53 : decode b_U_outlineRound 53 = .ok (.ldc 108, 2) := by decide +kernel
theorem d_U_outlineRound_55 : decode b_U_outlineRound 55 = .ok (.istore 6, 2) := by decide +kernel
theorem d_U_outlineRound_57 : decode b_U_outlineRound 57 = .ok (.iconst 0, 1) := by decide +kernel
theorem d_U_outlineRound_58 : decode b_U_outlineRound 58 = .ok (.istore 7, 2) := by decide +kernel
theorem d_U_outlineRound_60 : decode b_U_outlineRound 60 = .ok (.iload 7, 2) := by decide +kernel
theorem d_U_outlineRound_62 : decode b_U_outlineRound 62 = .ok (.aload_n 0, 1) := by decide +kernel
theorem d_U_outlineRound_63 : decode b_U_outlineRound 63 = .ok (.getfield 52, 3) := by decide +kernel
theorem d_U_outlineRound_66 : decode b_U_outlineRound 66 = .ok (.if_icmp .ge 86, 3) := by decide +kernel
theorem d_U_outlineRound_69 : decode b_U_outlineRound 69 = .ok (.aload_n 0, 1) := by decide +kernel
theorem d_U_outlineRound_70 : decode b_U_outlineRound 70 = .ok (.getfield 35, 3) := by decide +kernel
theorem d_U_outlineRound_73 : decode b_U_outlineRound 73 = .ok (.iload 7, 2) := by decide +kernel
theorem d_U_outlineRound_75 : decode b_U_outlineRound 75 = .ok (.iaload, 1) := by decide +kernel
theorem d_U_outlineRound_76 : decode b_U_outlineRound 76 = .ok (.invokestatic 69, 3) := by decide +kernel
theorem d_U_outlineRound_79 : decode b_U_outlineRound 79 = .ok (.istore 8, 2) := by decide +kernel
theorem d_U_outlineRound_81 : decode b_U_outlineRound 81 = .ok (.aload_n 0, 1) := by decide +kernel
theorem d_U_outlineRound_82 : decode b_U_outlineRound 82 = .ok (.getfield 32, 3) := by decide +kernel
theorem d_U_outlineRound_85 : decode b_U_outlineRound 85 = .ok (.iload 7, 2) := by decide +kernel
theorem d_U_outlineRound_87 : decode b_U_outlineRound 87 = .ok (.baload, 1) := by decide +kernel
theorem d_U_outlineRound_88 : decode b_U_outlineRound 88 = .ok (.aload_n 0, 1) := by decide +kernel
theorem d_U_outlineRound_89 : decode b_U_outlineRound 89 = .ok (.getfield 32, 3) := by decide +kernel
theorem d_U_outlineRound_92 : decode b_U_outlineRound 92 = .ok (.iload_n 1, 1) := by decide +kernel
theorem d_U_outlineRound_93 : decode b_U_outlineRound 93 = .ok (.baload, 1) := by decide +kernel
theorem d_U_outlineRound_94 : decode b_U_outlineRound 94 = .ok (.if_icmp .ne 52, 3) := by decide +kernel
theorem d_U_outlineRound_97 : decode b_U_outlineRound 97 = .ok (.aload_n 0, 1) := by decide +kernel
theorem d_U_outlineRound_98 : decode b_U_outlineRound 98 = .ok (.getfield 35, 3) := by decide +kernel
theorem d_U_outlineRound_101 : decode b_U_outlineRound 101 = .ok (.iload 7, 2) := by decide +kernel
theorem d_U_outlineRound_103 : decode b_U_outlineRound 103 = .ok (.iaload, 1) := by decide +kernel
theorem d_U_outlineRound_104 : decode b_U_outlineRound 104 = .ok (.ifCond .ge 7, 3) := by decide +kernel
theorem d_U_outlineRound_107 : decode b_U_outlineRound 107 = .ok (.iconst 1, 1) := by decide +kernel
theorem d_U_outlineRound_108 : decode b_U_outlineRound 108 = .ok (.goto 4, 3) := by decide +kernel
theorem d_U_outlineRound_111 : decode b_U_outlineRound 111 = .ok (.iconst 0, 1) := by decide +kernel
theorem d_U_outlineRound_112 : decode b_U_outlineRound 112 = .ok (.iload_n 2, 1) := by decide +kernel
theorem d_U_outlineRound_113 : decode b_U_outlineRound 113 = .ok (.if_icmp .eq 33, 3) := by decide +kernel
theorem d_U_outlineRound_116 : decode b_U_outlineRound 116 = .ok (.iload 8, 2) := by decide +kernel
theorem d_U_outlineRound_118 : decode b_U_outlineRound 118 = .ok (.iload 6, 2) := by decide +kernel
theorem d_U_outlineRound_120 : decode b_U_outlineRound 120 = .ok (.if_icmp .ge 26, 3) := by decide +kernel
theorem d_U_outlineRound_123 : decode b_U_outlineRound 123 = .ok (.aload_n 0, 1) := by decide +kernel
theorem d_U_outlineRound_124 : decode b_U_outlineRound 124 = .ok (.iload 7, 2) := by decide +kernel
theorem d_U_outlineRound_126 : decode b_U_outlineRound 126 = .ok (.iload_n 3, 1) := by decide +kernel
theorem d_U_outlineRound_127 : decode b_U_outlineRound 127 = .ok (.iload 4, 2) := by decide +kernel
theorem d_U_outlineRound_129 : decode b_U_outlineRound 129 = .ok (.invokevirtual 109, 3) := by decide +kernel
theorem d_U_outlineRound_132 : decode b_U_outlineRound 132 = .ok (.iconst 1, 1) := by decide +kernel
theorem d_U_outlineRound_133 : decode b_U_outlineRound 133 = .ok (.iand, 1) := by decide +kernel
theorem d_U_outlineRound_134 : decode b_U_outlineRound 134 = .ok (.iconst 1, 1) := by decide +kernel
theorem d_U_outlineRound_135 : decode b_U_outlineRound 135 = .ok (.if_icmp .ne 11, 3) := by decide +kernel
theorem d_U_outlineRound_138 : decode b_U_outlineRound 138 = .ok (.iload 7, 2) := by decide +kernel
theorem d_U_outlineRound_140 : decode b_U_outlineRound 140 = .ok (.istore 5, 2) := by decide +kernel
theorem d_U_outlineRound_142 : decode b_U_outlineRound 142 = .ok (.iload 8, 2) := by decide +kernel
theorem d_U_outlineRound_144 : decode b_U_outlineRound 144 = .ok (.istore 6, 2) := by decide +kernel
theorem d_U_outlineRound_146 : decode b_U_outlineRound 146 = .ok (.iinc 7 1, 3) := by decide +kernel
theorem d_U_outlineRound_149 : decode b_U_outlineRound 149 = .ok (.goto (-89), 3) := by decide +kernel
theorem d_U_outlineRound_152 : decode b_U_outlineRound 152 = .ok (.iload 5, 2) := by decide +kernel
theorem d_U_outlineRound_154 : decode b_U_outlineRound 154 = .ok (.ireturn, 1) := by decide +kernel
theorem d_U_length_0 : decode b_U_length 0 = .ok (.aload_n 0, 1) := by decide +kernel
theorem d_U_length_1 : decode b_U_length 1 = .ok (.getfield 28, 3) := by decide +kernel
theorem d_U_length_4 : decode b_U_length 4 = .ok (.iload_n 1, 1) := by decide +kernel
theorem d_U_length_5 : decode b_U_length 5 = .ok (.iconst 1, 1) := by decide +kernel
theorem d_U_length_6 : decode b_U_length 6 = .ok (.iadd, 1) := by decide +kernel
theorem d_U_length_7 : decode b_U_length 7 = .ok (.iaload, 1) := by decide +kernel
theorem d_U_length_8 : decode b_U_length 8 = .ok (.aload_n 0, 1) := by decide +kernel
theorem d_U_length_9 : decode b_U_length 9 = .ok (.getfield 28, 3) := by decide +kernel
theorem d_U_length_12 : decode b_U_length 12 = .ok (.iload_n 1, 1) := by decide +kernel
theorem d_U_length_13 : decode b_U_length 13 = .ok (.iaload, 1) := by decide +kernel
theorem d_U_length_14 : decode b_U_length 14 = .ok (.isub, 1) := by decide +kernel
theorem d_U_length_15 : decode b_U_length 15 = .ok (.ireturn, 1) := by decide +kernel
theorem d_O_about_0 : decode b_O_about 0 = .ok (.aload_n 0, 1) := by decide +kernel
theorem d_O_about_1 : decode b_O_about 1 = .ok (.invokevirtual 73, 3) := by decide +kernel
theorem d_O_about_4 : decode b_O_about 4 = .ok (.iload_n 1, 1) := by decide +kernel
theorem d_O_about_5 : decode b_O_about 5 = .ok (.aload_n 0, 1) := by decide +kernel
theorem d_O_about_6 : decode b_O_about 6 = .ok (.getfield 23, 3) := by decide +kernel
theorem d_O_about_9 : decode b_O_about 9 = .ok (.getfield 69, 3) := by decide +kernel
theorem d_O_about_12 : decode b_O_about 12 = .ok (.invokestatic 76, 3) := by decide +kernel
theorem d_O_about_15 : decode b_O_about 15 = .ok (.iload_n 2, 1) := by decide +kernel
theorem d_O_about_16 : decode b_O_about 16 = .ok (.tableswitch 70 0 3 #[32, 41, 51, 61], 32) := by decide +kernel
theorem d_O_about_48 : decode b_O_about 48 = .ok (.aload_n 0, 1) := by decide +kernel
theorem d_O_about_49 : decode b_O_about 49 = .ok (.getfield 23, 3) := by decide +kernel
theorem d_O_about_52 : decode b_O_about 52 = .ok (.iload_n 1, 1) := by decide +kernel
theorem d_O_about_53 : decode b_O_about 53 = .ok (.invokevirtual 79, 3) := by decide +kernel
theorem d_O_about_56 : decode b_O_about 56 = .ok (.ireturn, 1) := by decide +kernel
theorem d_O_about_57 : decode b_O_about 57 = .ok (.aload_n 0, 1) := by decide +kernel
theorem d_O_about_58 : decode b_O_about 58 = .ok (.getfield 23, 3) := by decide +kernel
theorem d_O_about_61 : decode b_O_about 61 = .ok (.getfield 83, 3) := by decide +kernel
theorem d_O_about_64 : decode b_O_about 64 = .ok (.iload_n 1, 1) := by decide +kernel
theorem d_O_about_65 : decode b_O_about 65 = .ok (.baload, 1) := by decide +kernel
theorem d_O_about_66 : decode b_O_about 66 = .ok (.ireturn, 1) := by decide +kernel
theorem d_O_about_67 : decode b_O_about 67 = .ok (.aload_n 0, 1) := by decide +kernel
theorem d_O_about_68 : decode b_O_about 68 = .ok (.getfield 23, 3) := by decide +kernel
theorem d_O_about_71 : decode b_O_about 71 = .ok (.getfield 87, 3) := by decide +kernel
theorem d_O_about_74 : decode b_O_about 74 = .ok (.iload_n 1, 1) := by decide +kernel
theorem d_O_about_75 : decode b_O_about 75 = .ok (.iaload, 1) := by decide +kernel
theorem d_O_about_76 : decode b_O_about 76 = .ok (.ireturn, 1) := by decide +kernel
theorem d_O_about_77 : decode b_O_about 77 = .ok (.aload_n 0, 1) := by decide +kernel
theorem d_O_about_78 : decode b_O_about 78 = .ok (.getfield 23, 3) := by decide +kernel
theorem d_O_about_81 : decode b_O_about 81 = .ok (.iload_n 1, 1) := by decide +kernel
theorem d_O_about_82 : decode b_O_about 82 = .ok (.invokevirtual 91, 3) := by decide +kernel
theorem d_O_about_85 : decode b_O_about 85 = .ok (.ireturn, 1) := by decide +kernel
theorem d_O_about_86 : decode b_O_about 86 = .ok (.iconst (-1), 1) := by decide +kernel
theorem d_O_about_87 : decode b_O_about 87 = .ok (.ireturn, 1) := by decide +kernel
theorem d_O_requirePoint_0 : decode b_O_requirePoint 0 = .ok (.aload_n 0, 1) := by decide +kernel
theorem d_O_requirePoint_1 : decode b_O_requirePoint 1 = .ok (.invokevirtual 73, 3) := by decide +kernel
theorem d_O_requirePoint_4 : decode b_O_requirePoint 4 = .ok (.iload_n 1, 1) := by decide +kernel
theorem d_O_requirePoint_5 : decode b_O_requirePoint 5 = .ok (.aload_n 0, 1) := by decide +kernel
theorem d_O_requirePoint_6 : decode b_O_requirePoint 6 = .ok (.getfield 23, 3) := by decide +kernel
theorem d_O_requirePoint_9 : decode b_O_requirePoint 9 = .ok (.getfield 69, 3) := by decide +kernel
theorem d_O_requirePoint_12 : decode b_O_requirePoint 12 = .ok (.invokestatic 76, 3) := by decide +kernel
theorem d_O_requirePoint_15 : decode b_O_requirePoint 15 = .ok (.iload_n 2, 1) := by decide +kernel
theorem d_O_requirePoint_16 : decode b_O_requirePoint 16 = .ok (.aload_n 0, 1) := by decide +kernel
theorem d_O_requirePoint_17 : decode b_O_requirePoint 17 = .ok (.getfield 23, 3) := by decide +kernel
theorem d_O_requirePoint_20 : decode b_O_requirePoint 20 = .ok (.iload_n 1, 1) := by decide +kernel
theorem d_O_requirePoint_21 : decode b_O_requirePoint 21 = .ok (.invokevirtual 79, 3) := by decide +kernel
theorem d_O_requirePoint_24 : decode b_O_requirePoint 24 = .ok (.invokestatic 76, 3) := by decide +kernel
theorem d_O_requirePoint_27 : decode b_O_requirePoint 27 = .ok (.return_, 1) := by decide +kernel
theorem d_O_point_0 : decode b_O_point 0 = .ok (.aload_n 0, 1) := by decide +kernel
theorem d_O_point_1 : decode b_O_point 1 = .ok (.iload_n 1, 1) := by decide +kernel
theorem d_O_point_2 : decode b_O_point 2 = .ok (.iload_n 2, 1) := by decide +kernel
theorem d_O_point_3 : decode b_O_point 3 = .ok (.invokevirtual 94, 3) := by decide +kernel
theorem d_O_point_6 : decode b_O_point 6 = .ok (.iload_n 3, 1) := by decide +kernel
theorem d_O_point_7 : decode b_O_point 7 = .ok (.iconst 0, 1) := by decide +kernel
theorem d_O_point_8 : decode b_O_point 8 = .ok (.iconst 1, 1) := by decide +kernel
theorem d_O_point_9 : decode b_O_point 9 = .ok (.invokestatic 55, 3) := by decide +kernel
theorem d_O_point_12 : decode b_O_point 12 = .ok (.aload_n 0, 1) := by decide +kernel
theorem d_O_point_13 : decode b_O_point 13 = .ok (.getfield 23, 3) := by decide +kernel
theorem d_O_point_16 : decode b_O_point 16 = .ok (.getfield 97, 3) := by decide +kernel
theorem d_O_point_19 : decode b_O_point 19 = .ok (.iload_n 1, 1) := by decide +kernel
theorem d_O_point_20 : decode b_O_point 20 = .ok (.iaload, 1) := by decide +kernel
theorem d_O_point_21 : decode b_O_point 21 = .ok (.iload_n 2, 1) := by decide +kernel
theorem d_O_point_22 : decode b_O_point 22 = .ok (.iadd, 1) := by decide +kernel
theorem d_O_point_23 : decode b_O_point 23 = .ok (.istore 4, 2) := by decide +kernel
theorem d_O_point_25 : decode b_O_point 25 = .ok (.iload_n 3, 1) := by decide +kernel
theorem d_O_point_26 : decode b_O_point 26 = .ok (.ifCond .ne 16, 3) := by decide +kernel
theorem d_O_point_29 : decode b_O_point 29 = .ok (.aload_n 0, 1) := by decide +kernel
theorem d_O_point_30 : decode b_O_point 30 = .ok (.getfield 23, 3) := by decide +kernel
theorem d_O_point_33 : decode b_O_point 33 = .ok (.getfield 100, 3) := by decide +kernel
theorem d_O_point_36 : decode b_O_point 36 = .ok (.iload 4, 2) := by decide +kernel
theorem d_O_point_38 : decode b_O_point 38 = .ok (.baload, 1) := by decide +kernel
theorem d_O_point_39 : decode b_O_point 39 = .ok (.goto 13, 3) := by decide +kernel
theorem d_O_point_42 : decode b_O_point 42 = .ok (.aload_n 0, 1) := by decide +kernel
theorem d_O_point_43 : decode b_O_point 43 = .ok (.getfield 23, 3) := by decide +kernel
theorem d_O_point_46 : decode b_O_point 46 = .ok (.getfield 103, 3) := by decide +kernel
theorem d_O_point_49 : decode b_O_point 49 = .ok (.iload 4, 2) := by decide +kernel
theorem d_O_point_51 : decode b_O_point 51 = .ok (.baload, 1) := by decide +kernel
theorem d_O_point_52 : decode b_O_point 52 = .ok (.ireturn, 1) := by decide +kernel
theorem d_U_greatestLayerAt_0 : decode b_U_greatestLayerAt 0 = .ok (.bipush 7, 2) := by decide +kernel
theorem d_U_greatestLayerAt_2 : decode b_U_greatestLayerAt 2 = .ok (.istore_n 3, 1) := by decide +kernel
theorem d_U_greatestLayerAt_3 : decode b_U_greatestLayerAt 3 = .ok (.iload_n 3, 1) := by decide +kernel
theorem d_U_greatestLayerAt_4 : decode b_U_greatestLayerAt 4 = .ok (.ifCond .le 64, 3) := by decide +kernel
theorem d_U_greatestLayerAt_7 : decode b_U_greatestLayerAt 7 = .ok (.iconst 0, 1) := by decide +kernel
theorem d_U_greatestLayerAt_8 : decode b_U_greatestLayerAt 8 = .ok (.istore 4, 2) := by decide +kernel
theorem d_U_greatestLayerAt_10 : decode b_U_greatestLayerAt 10 = .ok (.iconst 0, 1) := by decide +kernel
theorem d_U_greatestLayerAt_11 : decode b_U_greatestLayerAt 11 = .ok (.istore 5, 2) := by decide +kernel
theorem d_U_greatestLayerAt_13 : decode b_U_greatestLayerAt 13 = .ok (.iload 5, 2) := by decide +kernel
theorem d_U_greatestLayerAt_15 : decode b_U_greatestLayerAt 15 = .ok (.aload_n 0, 1) := by decide +kernel
theorem d_U_greatestLayerAt_16 : decode b_U_greatestLayerAt 16 = .ok (.getfield 52, 3) := by decide +kernel
theorem d_U_greatestLayerAt_19 : decode b_U_greatestLayerAt 19 = .ok (.if_icmp .ge 33, 3) := by decide +kernel
theorem d_U_greatestLayerAt_22 : decode b_U_greatestLayerAt 22 = .ok (.aload_n 0, 1) := by decide +kernel
theorem d_U_greatestLayerAt_23 : decode b_U_greatestLayerAt 23 = .ok (.getfield 32, 3) := by decide +kernel
theorem d_U_greatestLayerAt_26 : decode b_U_greatestLayerAt 26 = .ok (.iload 5, 2) := by decide +kernel
theorem d_U_greatestLayerAt_28 : decode b_U_greatestLayerAt 28 = .ok (.baload, 1) := by decide +kernel
theorem d_U_greatestLayerAt_29 : decode b_U_greatestLayerAt 29 = .ok (.iload_n 3, 1) := by decide +kernel
theorem d_U_greatestLayerAt_30 : decode b_U_greatestLayerAt 30 = .ok (.if_icmp .ne 16, 3) := by decide +kernel
theorem d_U_greatestLayerAt_33 : decode b_U_greatestLayerAt 33 = .ok (.iload 4, 2) := by decide +kernel
theorem d_U_greatestLayerAt_35 : decode b_U_greatestLayerAt 35 = .ok (.aload_n 0, 1) := by decide +kernel
theorem d_U_greatestLayerAt_36 : decode b_U_greatestLayerAt 36 = .ok (.iload 5, 2) := by decide +kernel
theorem d_U_greatestLayerAt_38 : decode b_U_greatestLayerAt 38 = .ok (.iload_n 1, 1) := by decide +kernel
theorem d_U_greatestLayerAt_39 : decode b_U_greatestLayerAt 39 = .ok (.iload_n 2, 1) := by decide +kernel
theorem d_U_greatestLayerAt_40 : decode b_U_greatestLayerAt 40 = .ok (.invokevirtual 109, 3) := by decide +kernel
theorem d_U_greatestLayerAt_43 : decode b_U_greatestLayerAt 43 = .ok (.iadd, 1) := by decide +kernel
theorem d_U_greatestLayerAt_44 : decode b_U_greatestLayerAt 44 = .ok (.istore 4, 2) := by decide +kernel
theorem d_U_greatestLayerAt_46 : decode b_U_greatestLayerAt 46 = .ok (.iinc 5 1, 3) := by decide +kernel
theorem d_U_greatestLayerAt_49 : decode b_U_greatestLayerAt 49 = .ok (.goto (-36), 3) := by decide +kernel
theorem d_U_greatestLayerAt_52 : decode b_U_greatestLayerAt 52 = .ok (.iload 4, 2) := by decide +kernel
theorem d_U_greatestLayerAt_54 : decode b_U_greatestLayerAt 54 = .ok (.iconst 1, 1) := by decide +kernel
theorem d_U_greatestLayerAt_55 : decode b_U_greatestLayerAt 55 = .ok (.iand, 1) := by decide +kernel
theorem d_U_greatestLayerAt_56 : decode b_U_greatestLayerAt 56 = .ok (.iconst 1, 1) := by decide +kernel
theorem d_U_greatestLayerAt_57 : decode b_U_greatestLayerAt 57 = .ok (.if_icmp .ne 5, 3) := by decide +kernel
theorem d_U_greatestLayerAt_60 : decode b_U_greatestLayerAt 60 = .ok (.iload_n 3, 1) := by decide +kernel
theorem d_U_greatestLayerAt_61 : decode b_U_greatestLayerAt 61 = .ok (.ireturn, 1) := by decide +kernel
theorem d_U_greatestLayerAt_62 : decode b_U_greatestLayerAt 62 = .ok (.iinc 3 (-1), 3) := by decide +kernel
theorem d_U_greatestLayerAt_65 : decode b_U_greatestLayerAt 65 = .ok (.goto (-62), 3) := by decide +kernel
theorem d_U_greatestLayerAt_68 : decode b_U_greatestLayerAt 68 = .ok (.iconst 0, 1) := by decide +kernel
theorem d_U_greatestLayerAt_69 : decode b_U_greatestLayerAt 69 = .ok (.ireturn, 1) := by decide +kernel
theorem d_O_covered_0 : decode b_O_covered 0 = .ok (.aload_n 0, 1) := by decide +kernel
theorem d_O_covered_1 : decode b_O_covered 1 = .ok (.invokevirtual 73, 3) := by decide +kernel
theorem d_O_covered_4 : decode b_O_covered 4 = .ok (.aload_n 0, 1) := by decide +kernel
theorem d_O_covered_5 : decode b_O_covered 5 = .ok (.iload_n 1, 1) := by decide +kernel
theorem d_O_covered_6 : decode b_O_covered 6 = .ok (.iload_n 2, 1) := by decide +kernel
theorem d_O_covered_7 : decode b_O_covered 7 = .ok (.invokevirtual 49, 3) := by decide +kernel
theorem d_O_covered_10 : decode b_O_covered 10 = .ok (.aload_n 0, 1) := by decide +kernel
theorem d_O_covered_11 : decode b_O_covered 11 = .ok (.getfield 23, 3) := by decide +kernel
theorem d_O_covered_14 : decode b_O_covered 14 = .ok (.iload_n 1, 1) := by decide +kernel
theorem d_O_covered_15 : decode b_O_covered 15 = .ok (.iload_n 2, 1) := by decide +kernel
theorem d_O_covered_16 : decode b_O_covered 16 = .ok (.invokevirtual 106, 3) := by decide +kernel
theorem d_O_covered_19 : decode b_O_covered 19 = .ok (.ireturn, 1) := by decide +kernel
theorem d_U_directionBit_0 : decode b_U_directionBit 0 = .ok (.aload_n 0, 1) := by decide +kernel
theorem d_U_directionBit_1 : decode b_U_directionBit 1 = .ok (.getfield 25, 3) := by decide +kernel
theorem d_U_directionBit_4 : decode b_U_directionBit 4 = .ok (.iload_n 1, 1) := by decide +kernel
theorem d_U_directionBit_5 : decode b_U_directionBit 5 = .ok (.baload, 1) := by decide +kernel
theorem d_U_directionBit_6 : decode b_U_directionBit 6 = .ok (.aload_n 0, 1) := by decide +kernel
theorem d_U_directionBit_7 : decode b_U_directionBit 7 = .ok (.getfield 25, 3) := by decide +kernel
theorem d_U_directionBit_10 : decode b_U_directionBit 10 = .ok (.iload_n 2, 1) := by decide +kernel
theorem d_U_directionBit_11 : decode b_U_directionBit 11 = .ok (.baload, 1) := by decide +kernel
theorem d_U_directionBit_12 : decode b_U_directionBit 12 = .ok (.if_icmp .ne 24, 3) := by decide +kernel
theorem d_U_directionBit_15 : decode b_U_directionBit 15 = .ok (.aload_n 0, 1) := by decide +kernel
theorem d_U_directionBit_16 : decode b_U_directionBit 16 = .ok (.getfield 21, 3) := by decide +kernel
theorem d_U_directionBit_19 : decode b_U_directionBit 19 = .ok (.iload_n 2, 1) := by decide +kernel
theorem d_U_directionBit_20 : decode b_U_directionBit 20 = .ok (.baload, 1) := by decide +kernel
theorem d_U_directionBit_21 : decode b_U_directionBit 21 = .ok (.aload_n 0, 1) := by decide +kernel
theorem d_U_directionBit_22 : decode b_U_directionBit 22 = .ok (.getfield 21, 3) := by decide +kernel
theorem d_U_directionBit_25 : decode b_U_directionBit 25 = .ok (.iload_n 1, 1) := by decide +kernel
theorem d_U_directionBit_26 : decode b_U_directionBit 26 = .ok (.baload, 1) := by decide +kernel
theorem d_U_directionBit_27 : decode b_U_directionBit 27 = .ok (.if_icmp .le 7, 3) := by decide +kernel
theorem d_U_directionBit_30 : decode b_U_directionBit 30 = .ok (.iconst 1, 1) := by decide +kernel
theorem d_U_directionBit_31 : decode b_U_directionBit 31 = .ok (.goto 4, 3) := by decide +kernel
theorem d_U_directionBit_34 : decode b_U_directionBit 34 = .ok (.iconst 2, 1) := by decide +kernel
theorem d_U_directionBit_35 : decode b_U_directionBit 35 = .ok (.ireturn, 1) := by decide +kernel
theorem d_U_directionBit_36 : decode b_U_directionBit 36 = .ok (.aload_n 0, 1) := by decide +kernel
theorem d_U_directionBit_37 : decode b_U_directionBit 37 = .ok (.getfield 25, 3) := by decide +kernel
theorem d_U_directionBit_40 : decode b_U_directionBit 40 = .ok (.iload_n 2, 1) := by decide +kernel
theorem d_U_directionBit_41 : decode b_U_directionBit 41 = .ok (.baload, 1) := by decide +kernel
theorem d_U_directionBit_42 : decode b_U_directionBit 42 = .ok (.aload_n 0, 1) := by decide +kernel
theorem d_U_directionBit_43 : decode b_U_directionBit 43 = .ok (.getfield 25, 3) := by decide +kernel
theorem d_U_directionBit_46 : decode b_U_directionBit 46 = .ok (.iload_n 1, 1) := by decide +kernel
theorem d_U_directionBit_47 : decode b_U_directionBit 47 = .ok (.baload, 1) := by decide +kernel
theorem d_U_directionBit_48 : decode b_U_directionBit 48 = .ok (.if_icmp .le 7, 3) := by decide +kernel
theorem d_U_directionBit_51 : decode b_U_directionBit 51 = .ok (.iconst 4, 1) := by decide +kernel
theorem d_U_directionBit_52 : decode b_U_directionBit 52 = .ok (.goto 5, 3) := by decide +kernel
theorem d_U_directionBit_55 : decode b_U_directionBit 55 = .ok (.bipush 8, 2) := by decide +kernel
theorem d_U_directionBit_57 : decode b_U_directionBit 57 = .ok (.ireturn, 1) := by decide +kernel
theorem d_U_costOf_0 : decode b_U_costOf 0 = .ok (.aload_n 0, 1) := by decide +kernel
theorem d_U_costOf_1 : decode b_U_costOf 1 = .ok (.getfield 28, 3) := by decide +kernel
theorem d_U_costOf_4 : decode b_U_costOf 4 = .ok (.iload_n 1, 1) := by decide +kernel
theorem d_U_costOf_5 : decode b_U_costOf 5 = .ok (.iaload, 1) := by decide +kernel
theorem d_U_costOf_6 : decode b_U_costOf 6 = .ok (.istore 5, 2) := by decide +kernel
theorem d_U_costOf_8 : decode b_U_costOf 8 = .ok (.aload_n 0, 1) := by decide +kernel
theorem d_U_costOf_9 : decode b_U_costOf 9 = .ok (.getfield 28, 3) := by decide +kernel
theorem d_U_costOf_12 : decode b_U_costOf 12 = .ok (.iload_n 1, 1) := by decide +kernel
theorem d_U_costOf_13 : decode b_U_costOf 13 = .ok (.iconst 1, 1) := by decide +kernel
theorem d_U_costOf_14 : decode b_U_costOf 14 = .ok (.iadd, 1) := by decide +kernel
theorem d_U_costOf_15 : decode b_U_costOf 15 = .ok (.iaload, 1) := by decide +kernel
theorem d_U_costOf_16 : decode b_U_costOf 16 = .ok (.istore 6, 2) := by decide +kernel
theorem d_U_costOf_18 : decode b_U_costOf 18 = .ok (.iload 5, 2) := by decide +kernel
theorem d_U_costOf_20 : decode b_U_costOf 20 = .ok (.iload_n 2, 1) := by decide +kernel
theorem d_U_costOf_21 : decode b_U_costOf 21 = .ok (.iadd, 1) := by decide +kernel
theorem d_U_costOf_22 : decode b_U_costOf 22 = .ok (.istore 7, 2) := by decide +kernel
theorem d_U_costOf_24 : decode b_U_costOf 24 = .ok (.iload 7, 2) := by decide +kernel
theorem d_U_costOf_26 : decode b_U_costOf 26 = .ok (.istore 8, 2) := by decide +kernel
theorem d_U_costOf_28 : decode b_U_costOf 28 = .ok (.iconst 0, 1) := by decide +kernel
theorem d_U_costOf_29 : decode b_U_costOf 29 = .ok (.istore 9, 2) := by decide +kernel
theorem d_U_costOf_31 : decode b_U_costOf 31 = .ok (.iconst 0, 1) := by decide +kernel
theorem d_U_costOf_32 : decode b_U_costOf 32 = .ok (.istore 10, 2) := by decide +kernel
theorem d_U_costOf_34 : decode b_U_costOf 34 = .ok (.iload 10, 2) := by decide +kernel
theorem d_U_costOf_36 : decode b_U_costOf 36 = .ok (.iload_n 3, 1) := by decide +kernel
theorem d_U_costOf_37 : decode b_U_costOf 37 = .ok (.if_icmp .ge 46, 3) := by decide +kernel
theorem d_U_costOf_40 : decode b_U_costOf 40 = .ok (.iload 8, 2) := by decide +kernel
theorem d_U_costOf_42 : decode b_U_costOf 42 = .ok (.iconst 1, 1) := by decide +kernel
theorem d_U_costOf_43 : decode b_U_costOf 43 = .ok (.iadd, 1) := by decide +kernel
theorem d_U_costOf_44 : decode b_U_costOf 44 = .ok (.iload 6, 2) := by decide +kernel
theorem d_U_costOf_46 : decode b_U_costOf 46 = .ok (.if_icmp .ge 10, 3) := by decide +kernel
theorem d_U_costOf_49 : decode b_U_costOf 49 = .ok (.iload 8, 2) := by decide +kernel
theorem d_U_costOf_51 : decode b_U_costOf 51 = .ok (.iconst 1, 1) := by decide +kernel
theorem d_U_costOf_52 : decode b_U_costOf 52 = .ok (.iadd, 1) := by decide +kernel
theorem d_U_costOf_53 : decode b_U_costOf 53 = .ok (.goto 5, 3) := by decide +kernel
theorem d_U_costOf_56 : decode b_U_costOf 56 = .ok (.iload 5, 2) := by decide +kernel
theorem d_U_costOf_58 : decode b_U_costOf 58 = .ok (.istore 11, 2) := by decide +kernel
theorem d_U_costOf_60 : decode b_U_costOf 60 = .ok (.iload 9, 2) := by decide +kernel
theorem d_U_costOf_62 : decode b_U_costOf 62 = .ok (.aload_n 0, 1) := by decide +kernel
theorem d_U_costOf_63 : decode b_U_costOf 63 = .ok (.iload 8, 2) := by decide +kernel
theorem d_U_costOf_65 : decode b_U_costOf 65 = .ok (.iload 11, 2) := by decide +kernel
theorem d_U_costOf_67 : decode b_U_costOf 67 = .ok (.invokevirtual 116, 3) := by decide +kernel
theorem d_U_costOf_70 : decode b_U_costOf 70 = .ok (.ior, 1) := by decide +kernel
theorem d_U_costOf_71 : decode b_U_costOf 71 = .ok (.istore 9, 2) := by decide +kernel
theorem d_U_costOf_73 : decode b_U_costOf 73 = .ok (.iload 11, 2) := by decide +kernel
theorem d_U_costOf_75 : decode b_U_costOf 75 = .ok (.istore 8, 2) := by decide +kernel
theorem d_U_costOf_77 : decode b_U_costOf 77 = .ok (.iinc 10 1, 3) := by decide +kernel
theorem d_U_costOf_80 : decode b_U_costOf 80 = .ok (.goto (-46), 3) := by decide +kernel
theorem d_U_costOf_83 : decode b_U_costOf 83 = .ok (.iload 9, 2) := by decide +kernel
theorem d_U_costOf_85 : decode b_U_costOf 85 = .ok (.bipush 15, 2) := by decide +kernel
theorem d_U_costOf_87 : decode b_U_costOf 87 = .ok (.if_icmp .ne 5, 3) := by decide +kernel
theorem d_U_costOf_90 : decode b_U_costOf 90 = .ok (.iconst (-1), 1) := by decide +kernel
theorem d_U_costOf_91 : decode b_U_costOf 91 = .ok (.ireturn, 1) := by decide +kernel
theorem d_U_costOf_92 : decode b_U_costOf 92 = .ok (.aload_n 0, 1) := by decide +kernel
theorem d_U_costOf_93 : decode b_U_costOf 93 = .ok (.getfield 21, 3) := by decide +kernel
theorem d_U_costOf_96 : decode b_U_costOf 96 = .ok (.iload 8, 2) := by decide +kernel
theorem d_U_costOf_98 : decode b_U_costOf 98 = .ok (.baload, 1) := by decide +kernel
theorem d_U_costOf_99 : decode b_U_costOf 99 = .ok (.aload_n 0, 1) := by decide +kernel
theorem d_U_costOf_100 : decode b_U_costOf 100 = .ok (.getfield 21, 3) := by decide +kernel
theorem d_U_costOf_103 : decode b_U_costOf 103 = .ok (.iload 7, 2) := by decide +kernel
theorem d_U_costOf_105 : decode b_U_costOf 105 = .ok (.baload, 1) := by decide +kernel
theorem d_U_costOf_106 : decode b_U_costOf 106 = .ok (.isub, 1) := by decide +kernel
theorem d_U_costOf_107 : decode b_U_costOf 107 = .ok (.istore 10, 2) := by decide +kernel
theorem d_U_costOf_109 : decode b_U_costOf 109 = .ok (.aload_n 0, 1) := by decide +kernel
theorem d_U_costOf_110 : decode b_U_costOf 110 = .ok (.getfield 25, 3) := by decide +kernel
theorem d_U_costOf_113 : decode b_U_costOf 113 = .ok (.iload 8, 2) := by decide +kernel
theorem d_U_costOf_115 : decode b_U_costOf 115 = .ok (.baload, 1) := by decide +kernel
theorem d_U_costOf_116 : decode b_U_costOf 116 = .ok (.aload_n 0, 1) := by decide +kernel
theorem d_U_costOf_117 : decode b_U_costOf 117 = .ok (.getfield 25, 3) := by decide +kernel
theorem d_U_costOf_120 : decode b_U_costOf 120 = .ok (.iload 7, 2) := by decide +kernel
theorem d_U_costOf_122 : decode b_U_costOf 122 = .ok (.baload, 1) := by decide +kernel
theorem d_U_costOf_123 : decode b_U_costOf 123 = .ok (.isub, 1) := by decide +kernel
theorem d_U_costOf_124 : decode b_U_costOf 124 = .ok (.istore 11, 2) := by decide +kernel
theorem d_U_costOf_126 : decode b_U_costOf 126 = .ok (.iload 4, 2) := by decide +kernel
theorem d_U_costOf_128 : decode b_U_costOf 128 = .ok (.iload 10, 2) := by decide +kernel
theorem d_U_costOf_130 : decode b_U_costOf 130 = .ok (.invokestatic 69, 3) := by decide +kernel
theorem d_U_costOf_133 : decode b_U_costOf 133 = .ok (.iload 11, 2) := by decide +kernel
theorem d_U_costOf_135 : decode b_U_costOf 135 = .ok (.invokestatic 69, 3) := by decide +kernel
theorem d_U_costOf_138 : decode b_U_costOf 138 = .ok (.invokestatic 119, 3) := by decide +kernel
theorem d_U_costOf_141 : decode b_U_costOf 141 = .ok (.imul, 1) := by decide +kernel
theorem d_U_costOf_142 : decode b_U_costOf 142 = .ok (.istore 12, 2) := by decide +kernel
theorem d_U_costOf_144 : decode b_U_costOf 144 = .ok (.iconst 0, 1) := by decide +kernel
theorem d_U_costOf_145 : decode b_U_costOf 145 = .ok (.istore 13, 2) := by decide +kernel
theorem d_U_costOf_147 : decode b_U_costOf 147 = .ok (.iload 7, 2) := by decide +kernel
theorem d_U_costOf_149 : decode b_U_costOf 149 = .ok (.istore 14, 2) := by decide +kernel
theorem d_U_costOf_151 : decode b_U_costOf 151 = .ok (.iconst 1, 1) := by decide +kernel
theorem d_U_costOf_152 : decode b_U_costOf 152 = .ok (.istore 15, 2) := by decide +kernel
theorem d_U_costOf_154 : decode b_U_costOf 154 = .ok (.iload 15, 2) := by decide +kernel
theorem d_U_costOf_156 : decode b_U_costOf 156 = .ok (.iload_n 3, 1) := by decide +kernel
theorem d_U_costOf_157 : decode b_U_costOf 157 = .ok (.if_icmp .ge 89, 3) := by decide +kernel
theorem d_U_costOf_160 : decode b_U_costOf 160 = .ok (.iload 14, 2) := by decide +kernel
theorem d_U_costOf_162 : decode b_U_costOf 162 = .ok (.iconst 1, 1) := by decide +kernel
theorem d_U_costOf_163 : decode b_U_costOf 163 = .ok (.iadd, 1) := by decide +kernel
theorem d_U_costOf_164 : decode b_U_costOf 164 = .ok (.iload 6, 2) := by decide +kernel
theorem d_U_costOf_166 : decode b_U_costOf 166 = .ok (.if_icmp .ge 10, 3) := by decide +kernel
theorem d_U_costOf_169 : decode b_U_costOf 169 = .ok (.iload 14, 2) := by decide +kernel
theorem d_U_costOf_171 : decode b_U_costOf 171 = .ok (.iconst 1, 1) := by decide +kernel
theorem d_U_costOf_172 : decode b_U_costOf 172 = .ok (.iadd, 1) := by decide +kernel
theorem d_U_costOf_173 : decode b_U_costOf 173 = .ok (.goto 5, 3) := by decide +kernel
theorem d_U_costOf_176 : decode b_U_costOf 176 = .ok (.iload 5, 2) := by decide +kernel
theorem d_U_costOf_178 : decode b_U_costOf 178 = .ok (.istore 14, 2) := by decide +kernel
theorem d_U_costOf_180 : decode b_U_costOf 180 = .ok (.iload 10, 2) := by decide +kernel
theorem d_U_costOf_182 : decode b_U_costOf 182 = .ok (.aload_n 0, 1) := by decide +kernel
theorem d_U_costOf_183 : decode b_U_costOf 183 = .ok (.getfield 25, 3) := by decide +kernel
theorem d_U_costOf_186 : decode b_U_costOf 186 = .ok (.iload 14, 2) := by decide +kernel
theorem d_U_costOf_188 : decode b_U_costOf 188 = .ok (.baload, 1) := by decide +kernel
theorem d_U_costOf_189 : decode b_U_costOf 189 = .ok (.aload_n 0, 1) := by decide +kernel
theorem d_U_costOf_190 : decode b_U_costOf 190 = .ok (.getfield 25, 3) := by decide +kernel
theorem d_U_costOf_193 : decode b_U_costOf 193 = .ok (.iload 7, 2) := by decide +kernel
theorem d_U_costOf_195 : decode b_U_costOf 195 = .ok (.baload, 1) := by decide +kernel
theorem d_U_costOf_196 : decode b_U_costOf 196 = .ok (.isub, 1) := by decide +kernel
theorem d_U_costOf_197 : decode b_U_costOf 197 = .ok (.imul, 1) := by decide +kernel
theorem d_U_costOf_198 : decode b_U_costOf 198 = .ok (.iload 11, 2) := by decide +kernel
theorem d_U_costOf_200 : decode b_U_costOf 200 = .ok (.aload_n 0, 1) := by decide +kernel
theorem d_U_costOf_201 : decode b_U_costOf 201 = .ok (.getfield 21, 3) := by decide +kernel
theorem d_U_costOf_204 : decode b_U_costOf 204 = .ok (.iload 14, 2) := by decide +kernel
theorem d_U_costOf_206 : decode b_U_costOf 206 = .ok (.baload, 1) := by decide +kernel
theorem d_U_costOf_207 : decode b_U_costOf 207 = .ok (.aload_n 0, 1) := by decide +kernel
theorem d_U_costOf_208 : decode b_U_costOf 208 = .ok (.getfield 21, 3) := by decide +kernel
theorem d_U_costOf_211 : decode b_U_costOf 211 = .ok (.iload 7, 2) := by decide +kernel
theorem d_U_costOf_213 : decode b_U_costOf 213 = .ok (.baload, 1) := by decide +kernel
theorem d_U_costOf_214 : decode b_U_costOf 214 = .ok (.isub, 1) := by decide +kernel
theorem d_U_costOf_215 : decode b_U_costOf 215 = .ok (.imul, 1) := by decide +kernel
theorem d_U_costOf_216 : decode b_U_costOf 216 = .ok (.isub, 1) := by decide +kernel
theorem d_U_costOf_217 : decode b_U_costOf 217 = .ok (.invokestatic 69, 3) := by decide +kernel
theorem d_U_costOf_220 : decode b_U_costOf 220 = .ok (.istore 16, 2) := by decide +kernel
theorem d_U_costOf_222 : decode b_U_costOf 222 = .ok (.iconst 2, 1) := by decide +kernel
theorem d_U_costOf_223 : decode b_U_costOf 223 = .ok (.iload 16, 2) := by decide +kernel
theorem d_U_costOf_225 : decode b_U_costOf 225 = .ok (.imul, 1) := by decide +kernel
theorem d_U_costOf_226 : decode b_U_costOf 226 = .ok (.iload 12, 2) := by decide +kernel
theorem d_U_costOf_228 : decode b_U_costOf 228 = .ok (.if_icmp .le 5, 3) := by decide +kernel
theorem d_U_costOf_231 : decode b_U_costOf 231 = .ok (.iconst (-1), 1) := by decide +kernel
theorem d_U_costOf_232 : decode b_U_costOf 232 = .ok (.ireturn, 1) := by decide +kernel
theorem d_U_costOf_233 : decode b_U_costOf 233 = .ok (.iload 13, 2) := by decide +kernel
theorem d_U_costOf_235 : decode b_U_costOf 235 = .ok (.iload 16, 2) := by decide +kernel
theorem d_U_costOf_237 : decode b_U_costOf 237 = .ok (.iadd, 1) := by decide +kernel
theorem d_U_costOf_238 : decode b_U_costOf 238 = .ok (.istore 13, 2) := by decide +kernel
theorem d_U_costOf_240 : decode b_U_costOf 240 = .ok (.iinc 15 1, 3) := by decide +kernel
theorem d_U_costOf_243 : decode b_U_costOf 243 = .ok (.goto (-89), 3) := by decide +kernel
theorem d_U_costOf_246 : decode b_U_costOf 246 = .ok (.iload 13, 2) := by decide +kernel
theorem d_U_costOf_248 : decode b_U_costOf 248 = .ok (.ireturn, 1) := by decide +kernel
theorem d_O_piece_0 : decode b_O_piece 0 = .ok (.aload_n 0, 1) := by decide +kernel
theorem d_O_piece_1 : decode b_O_piece 1 = .ok (.iload_n 1, 1) := by decide +kernel
theorem d_O_piece_2 : decode b_O_piece 2 = .ok (.iload_n 2, 1) := by decide +kernel
theorem d_O_piece_3 : decode b_O_piece 3 = .ok (.invokevirtual 94, 3) := by decide +kernel
theorem d_O_piece_6 : decode b_O_piece 6 = .ok (.iload_n 3, 1) := by decide +kernel
theorem d_O_piece_7 : decode b_O_piece 7 = .ok (.iconst 1, 1) := by decide +kernel
theorem d_O_piece_8 : decode b_O_piece 8 = .ok (.bipush 24, 2) := by decide +kernel
theorem d_O_piece_10 : decode b_O_piece 10 = .ok (.invokestatic 55, 3) := by decide +kernel
theorem d_O_piece_13 : decode b_O_piece 13 = .ok (.iload 4, 2) := by decide +kernel
theorem d_O_piece_15 : decode b_O_piece 15 = .ok (.iconst 1, 1) := by decide +kernel
theorem d_O_piece_16 : decode b_O_piece 16 = .ok (.bipush 8, 2) := by decide +kernel
theorem d_O_piece_18 : decode b_O_piece 18 = .ok (.invokestatic 55, 3) := by decide +kernel
theorem d_O_piece_21 : decode b_O_piece 21 = .ok (.aload_n 0, 1) := by decide +kernel
theorem d_O_piece_22 : decode b_O_piece 22 = .ok (.getfield 23, 3) := by decide +kernel
theorem d_O_piece_25 : decode b_O_piece 25 = .ok (.iload_n 1, 1) := by decide +kernel
theorem d_O_piece_26 : decode b_O_piece 26 = .ok (.iload_n 2, 1) := by decide +kernel
theorem d_O_piece_27 : decode b_O_piece 27 = .ok (.iload_n 3, 1) := by decide +kernel
theorem d_O_piece_28 : decode b_O_piece 28 = .ok (.iload 4, 2) := by decide +kernel
theorem d_O_piece_30 : decode b_O_piece 30 = .ok (.invokevirtual 110, 3) := by decide +kernel
theorem d_O_piece_33 : decode b_O_piece 33 = .ok (.ireturn, 1) := by decide +kernel
theorem d_G_weighPieces_0 : decode b_G_weighPieces 0 = .ok (.iconst 0, 1) := by decide +kernel
theorem d_G_weighPieces_1 : decode b_G_weighPieces 1 = .ok (.istore 4, 2) := by decide +kernel
theorem d_G_weighPieces_3 : decode b_G_weighPieces 3 = .ok (.iload 4, 2) := by decide +kernel
theorem d_G_weighPieces_5 : decode b_G_weighPieces 5 = .ok (.iload_n 2, 1) := by decide +kernel
theorem d_G_weighPieces_6 : decode b_G_weighPieces 6 = .ok (.if_icmp .ge 53, 3) := by decide +kernel
theorem d_G_weighPieces_9 : decode b_G_weighPieces 9 = .ok (.iconst 1, 1) := by decide +kernel
theorem d_G_weighPieces_10 : decode b_G_weighPieces 10 = .ok (.istore 5, 2) := by decide +kernel
theorem d_G_weighPieces_12 : decode b_G_weighPieces 12 = .ok (.iload 5, 2) := by decide +kernel
theorem d_G_weighPieces_14 : decode b_G_weighPieces 14 = .ok (.bipush 24, 2) := by decide +kernel
theorem d_G_weighPieces_16 : decode b_G_weighPieces 16 = .ok (.if_icmp .gt 37, 3) := by decide +kernel
theorem d_G_weighPieces_19 : decode b_G_weighPieces 19 = .ok (.aload_n 0, 1) := by decide +kernel
theorem d_G_weighPieces_20 : decode b_G_weighPieces 20 = .ok (.getfield 15, 3) := by decide +kernel
theorem d_G_weighPieces_23 : decode b_G_weighPieces 23 = .ok (.iload 4, 2) := by decide +kernel
theorem d_G_weighPieces_25 : decode b_G_weighPieces 25 = .ok (.bipush 24, 2) := by decide +kernel
theorem d_G_weighPieces_27 : decode b_G_weighPieces 27 = .ok (.imul, 1) := by decide +kernel
theorem d_G_weighPieces_28 : decode b_G_weighPieces 28 = .ok (.iload 5, 2) := by decide +kernel
theorem d_G_weighPieces_30 : decode b_G_weighPieces 30 = .ok (.iadd, 1) := by decide +kernel
theorem d_G_weighPieces_31 : decode b_G_weighPieces 31 = .ok (.iconst 1, 1) := by decide +kernel
theorem d_G_weighPieces_32 : decode b_G_weighPieces 32 = .ok (.isub, 1) := by decide +kernel
theorem d_G_weighPieces_33 : decode b_G_weighPieces 33 = .ok (.aload_n 0, 1) := by decide +kernel
theorem d_G_weighPieces_34 : decode b_G_weighPieces 34 = .ok (.getfield 9, 3) := by decide +kernel
theorem d_G_weighPieces_37 : decode b_G_weighPieces 37 = .ok (.iload_n 1, 1) := by decide +kernel
theorem d_G_weighPieces_38 : decode b_G_weighPieces 38 = .ok (.iload 4, 2) := by decide +kernel
theorem d_G_weighPieces_40 : decode b_G_weighPieces 40 = .ok (.iload 5, 2) := by decide +kernel
theorem d_G_weighPieces_42 : decode b_G_weighPieces 42 = .ok (.iload_n 3, 1) := by decide +kernel
theorem d_G_weighPieces_43 : decode b_G_weighPieces 43 = .ok (.invokevirtual 75, 3) := by decide +kernel
theorem d_G_weighPieces_46 : decode b_G_weighPieces 46 = .ok (.iastore, 1) := by decide +kernel
theorem d_G_weighPieces_47 : decode b_G_weighPieces 47 = .ok (.iinc 5 1, 3) := by decide +kernel
theorem d_G_weighPieces_50 : decode b_G_weighPieces 50 = .ok (.goto (-38), 3) := by decide +kernel
theorem d_G_weighPieces_53 : decode b_G_weighPieces 53 = .ok (.iinc 4 1, 3) := by decide +kernel
theorem d_G_weighPieces_56 : decode b_G_weighPieces 56 = .ok (.goto (-53), 3) := by decide +kernel
theorem d_G_weighPieces_59 : decode b_G_weighPieces 59 = .ok (.return_, 1) := by decide +kernel
theorem d_G_pieceCost_0 : decode b_G_pieceCost 0 = .ok (.iload_n 2, 1) := by decide +kernel
theorem d_G_pieceCost_1 : decode b_G_pieceCost 1 = .ok (.iconst 1, 1) := by decide +kernel
theorem d_G_pieceCost_2 : decode b_G_pieceCost 2 = .ok (.if_icmp .lt 9, 3) := by decide +kernel
theorem d_G_pieceCost_5 : decode b_G_pieceCost 5 = .ok (.iload_n 2, 1) := by decide +kernel
theorem d_G_pieceCost_6 : decode b_G_pieceCost 6 = .ok (.bipush 24, 2) := by decide +kernel
theorem d_G_pieceCost_8 : decode b_G_pieceCost 8 = .ok (.if_icmp .le 7, 3) := by decide +kernel
theorem d_G_pieceCost_11 : decode b_G_pieceCost 11 = .ok (.iconst (-1), 1) := by decide +kernel
theorem d_G_pieceCost_12 : decode b_G_pieceCost 12 = .ok (.goto 16, 3) := by decide +kernel
theorem d_G_pieceCost_15 : decode b_G_pieceCost 15 = .ok (.aload_n 0, 1) := by decide +kernel
theorem d_G_pieceCost_16 : decode b_G_pieceCost 16 = .ok (.getfield 15, 3) := by decide +kernel
theorem d_G_pieceCost_19 : decode b_G_pieceCost 19 = .ok (.iload_n 1, 1) := by decide +kernel
theorem d_G_pieceCost_20 : decode b_G_pieceCost 20 = .ok (.bipush 24, 2) := by decide +kernel
theorem d_G_pieceCost_22 : decode b_G_pieceCost 22 = .ok (.imul, 1) := by decide +kernel
theorem d_G_pieceCost_23 : decode b_G_pieceCost 23 = .ok (.iload_n 2, 1) := by decide +kernel
theorem d_G_pieceCost_24 : decode b_G_pieceCost 24 = .ok (.iadd, 1) := by decide +kernel
theorem d_G_pieceCost_25 : decode b_G_pieceCost 25 = .ok (.iconst 1, 1) := by decide +kernel
theorem d_G_pieceCost_26 : decode b_G_pieceCost 26 = .ok (.isub, 1) := by decide +kernel
theorem d_G_pieceCost_27 : decode b_G_pieceCost 27 = .ok (.iaload, 1) := by decide +kernel
theorem d_G_pieceCost_28 : decode b_G_pieceCost 28 = .ok (.ireturn, 1) := by decide +kernel
theorem d_G_leastThrough_0 : decode b_G_leastThrough 0 = .ok (.ldc 63, 2) := by decide +kernel
theorem d_G_leastThrough_2 : decode b_G_leastThrough 2 = .ok (.istore 4, 2) := by decide +kernel
theorem d_G_leastThrough_4 : decode b_G_leastThrough 4 = .ok (.iload_n 2, 1) := by decide +kernel
theorem d_G_leastThrough_5 : decode b_G_leastThrough 5 = .ok (.bipush 24, 2) := by decide +kernel
theorem d_G_leastThrough_7 : decode b_G_leastThrough 7 = .ok (.iadd, 1) := by decide +kernel
theorem d_G_leastThrough_8 : decode b_G_leastThrough 8 = .ok (.iconst 1, 1) := by decide +kernel
theorem d_G_leastThrough_9 : decode b_G_leastThrough 9 = .ok (.iadd, 1) := by decide +kernel
theorem d_G_leastThrough_10 : decode b_G_leastThrough 10 = .ok (.iload_n 3, 1) := by decide +kernel
theorem d_G_leastThrough_11 : decode b_G_leastThrough 11 = .ok (.invokestatic 53, 3) := by decide +kernel
theorem d_G_leastThrough_14 : decode b_G_leastThrough 14 = .ok (.istore 5, 2) := by decide +kernel
theorem d_G_leastThrough_16 : decode b_G_leastThrough 16 = .ok (.iload_n 2, 1) := by decide +kernel
theorem d_G_leastThrough_17 : decode b_G_leastThrough 17 = .ok (.iconst 1, 1) := by decide +kernel
theorem d_G_leastThrough_18 : decode b_G_leastThrough 18 = .ok (.iadd, 1) := by decide +kernel
theorem d_G_leastThrough_19 : decode b_G_leastThrough 19 = .ok (.istore 6, 2) := by decide +kernel
theorem d_G_leastThrough_21 : decode b_G_leastThrough 21 = .ok (.iload 6, 2) := by decide +kernel
theorem d_G_leastThrough_23 : decode b_G_leastThrough 23 = .ok (.iload 5, 2) := by decide +kernel
theorem d_G_leastThrough_25 : decode b_G_leastThrough 25 = .ok (.if_icmp .ge 43, 3) := by decide +kernel
theorem d_G_leastThrough_28 : decode b_G_leastThrough 28 = .ok (.aload_n 0, 1) := by decide +kernel
theorem d_G_leastThrough_29 : decode b_G_leastThrough 29 = .ok (.iload_n 2, 1) := by decide +kernel
theorem d_G_leastThrough_30 : decode b_G_leastThrough 30 = .ok (.iload 6, 2) := by decide +kernel
theorem d_G_leastThrough_32 : decode b_G_leastThrough 32 = .ok (.iload_n 2, 1) := by decide +kernel
theorem d_G_leastThrough_33 : decode b_G_leastThrough 33 = .ok (.isub, 1) := by decide +kernel
theorem d_G_leastThrough_34 : decode b_G_leastThrough 34 = .ok (.invokevirtual 79, 3) := by decide +kernel
theorem d_G_leastThrough_37 : decode b_G_leastThrough 37 = .ok (.istore 7, 2) := by decide +kernel
theorem d_G_leastThrough_39 : decode b_G_leastThrough 39 = .ok (.iload 7, 2) := by decide +kernel
theorem d_G_leastThrough_41 : decode b_G_leastThrough 41 = .ok (.iconst (-1), 1) := by decide +kernel
theorem d_G_leastThrough_42 : decode b_G_leastThrough 42 = .ok (.if_icmp .eq 20, 3) := by decide +kernel
theorem d_G_leastThrough_45 : decode b_G_leastThrough 45 = .ok (.iload 4, 2) := by decide +kernel
theorem d_G_leastThrough_47 : decode b_G_leastThrough 47 = .ok (.ldc 86, 2) := by decide +kernel
theorem d_G_leastThrough_49 : decode b_G_leastThrough 49 = .ok (.iload 7, 2) := by decide +kernel
theorem d_G_leastThrough_51 : decode b_G_leastThrough 51 = .ok (.iadd, 1) := by decide +kernel
theorem d_G_leastThrough_52 : decode b_G_leastThrough 52 = .ok (.aload_n 1, 1) := by decide +kernel
theorem d_G_leastThrough_53 : decode b_G_leastThrough 53 = .ok (.iload 6, 2) := by decide +kernel
theorem d_G_leastThrough_55 : decode b_G_leastThrough 55 = .ok (.iaload, 1) := by decide +kernel
theorem d_G_leastThrough_56 : decode b_G_leastThrough 56 = .ok (.iadd, 1) := by decide +kernel
theorem d_G_leastThrough_57 : decode b_G_leastThrough 57 = .ok (.invokestatic 53, 3) := by decide +kernel
theorem d_G_leastThrough_60 : decode b_G_leastThrough 60 = .ok (.istore 4, 2) := by decide +kernel
theorem d_G_leastThrough_62 : decode b_G_leastThrough 62 = .ok (.iinc 6 1, 3) := by decide +kernel
theorem d_G_leastThrough_65 : decode b_G_leastThrough 65 = .ok (.goto (-44), 3) := by decide +kernel
theorem d_G_leastThrough_68 : decode b_G_leastThrough 68 = .ok (.iload 4, 2) := by decide +kernel
theorem d_G_leastThrough_70 : decode b_G_leastThrough 70 = .ok (.ireturn, 1) := by decide +kernel
theorem d_G_weighFrom_0 : decode b_G_weighFrom 0 = .ok (.iload_n 2, 1) := by decide +kernel
theorem d_G_weighFrom_1 : decode b_G_weighFrom 1 = .ok (.iconst 1, 1) := by decide +kernel
theorem d_G_weighFrom_2 : decode b_G_weighFrom 2 = .ok (.isub, 1) := by decide +kernel
theorem d_G_weighFrom_3 : decode b_G_weighFrom 3 = .ok (.istore_n 3, 1) := by decide +kernel
theorem d_G_weighFrom_4 : decode b_G_weighFrom 4 = .ok (.iload_n 3, 1) := by decide +kernel
theorem d_G_weighFrom_5 : decode b_G_weighFrom 5 = .ok (.iload_n 1, 1) := by decide +kernel
theorem d_G_weighFrom_6 : decode b_G_weighFrom 6 = .ok (.if_icmp .le 60, 3) := by decide +kernel
theorem d_G_weighFrom_9 : decode b_G_weighFrom 9 = .ok (.aload_n 0, 1) := by decide +kernel
theorem d_G_weighFrom_10 : decode b_G_weighFrom 10 = .ok (.iload_n 3, 1) := by decide +kernel
theorem d_G_weighFrom_11 : decode b_G_weighFrom 11 = .ok (.iload_n 2, 1) := by decide +kernel
theorem d_G_weighFrom_12 : decode b_G_weighFrom 12 = .ok (.iload_n 1, 1) := by decide +kernel
theorem d_G_weighFrom_13 : decode b_G_weighFrom 13 = .ok (.iadd, 1) := by decide +kernel
theorem d_G_weighFrom_14 : decode b_G_weighFrom 14 = .ok (.iload_n 3, 1) := by decide +kernel
theorem d_G_weighFrom_15 : decode b_G_weighFrom 15 = .ok (.isub, 1) := by decide +kernel
theorem d_G_weighFrom_16 : decode b_G_weighFrom 16 = .ok (.invokevirtual 79, 3) := by decide +kernel
theorem d_G_weighFrom_19 : decode b_G_weighFrom 19 = .ok (.istore 4, 2) := by decide +kernel
theorem d_G_weighFrom_21 : decode b_G_weighFrom 21 = .ok (.aload_n 0, 1) := by decide +kernel
theorem d_G_weighFrom_22 : decode b_G_weighFrom 22 = .ok (.aload_n 0, 1) := by decide +kernel
theorem d_G_weighFrom_23 : decode b_G_weighFrom 23 = .ok (.getfield 19, 3) := by decide +kernel
theorem d_G_weighFrom_26 : decode b_G_weighFrom 26 = .ok (.iload_n 3, 1) := by decide +kernel
theorem d_G_weighFrom_27 : decode b_G_weighFrom 27 = .ok (.iload_n 2, 1) := by decide +kernel
theorem d_G_weighFrom_28 : decode b_G_weighFrom 28 = .ok (.invokevirtual 82, 3) := by decide +kernel
theorem d_G_weighFrom_31 : decode b_G_weighFrom 31 = .ok (.istore 5, 2) := by decide +kernel
theorem d_G_weighFrom_33 : decode b_G_weighFrom 33 = .ok (.aload_n 0, 1) := by decide +kernel
theorem d_G_weighFrom_34 : decode b_G_weighFrom 34 = .ok (.getfield 19, 3) := by decide +kernel
theorem d_G_weighFrom_37 : decode b_G_weighFrom 37 = .ok (.iload_n 3, 1) := by decide +kernel
theorem d_G_weighFrom_38 : decode b_G_weighFrom 38 = .ok (.iload 4, 2) := by decide +kernel
theorem d_G_weighFrom_40 : decode b_G_weighFrom 40 = .ok (.iconst (-1), 1) := by decide +kernel
theorem d_G_weighFrom_41 : decode b_G_weighFrom 41 = .ok (.if_icmp .ne 8, 3) := by decide +kernel
theorem d_G_weighFrom_44 : decode b_G_weighFrom 44 = .ok (.iload 5, 2) := by decide +kernel
theorem d_G_weighFrom_46 : decode b_G_weighFrom 46 = .ok (.goto 13, 3) := by decide +kernel
theorem d_G_weighFrom_49 : decode b_G_weighFrom 49 = .ok (.iload 5, 2) := by decide +kernel
theorem d_G_weighFrom_51 : decode b_G_weighFrom 51 = .ok (.ldc 86, 2) := by decide +kernel
theorem d_G_weighFrom_53 : decode b_G_weighFrom 53 = .ok (.iload 4, 2) := by decide +kernel
theorem d_G_weighFrom_55 : decode b_G_weighFrom 55 = .ok (.iadd, 1) := by decide +kernel
theorem d_G_weighFrom_56 : decode b_G_weighFrom 56 = .ok (.invokestatic 53, 3) := by decide +kernel
theorem d_G_weighFrom_59 : decode b_G_weighFrom 59 = .ok (.iastore, 1) := by decide +kernel
theorem d_G_weighFrom_60 : decode b_G_weighFrom 60 = .ok (.iinc 3 (-1), 3) := by decide +kernel
theorem d_G_weighFrom_63 : decode b_G_weighFrom 63 = .ok (.goto (-59), 3) := by decide +kernel
theorem d_G_weighFrom_66 : decode b_G_weighFrom 66 = .ok (.iload_n 1, 1) := by decide +kernel
theorem d_G_weighFrom_67 : decode b_G_weighFrom 67 = .ok (.bipush 24, 2) := by decide +kernel
theorem d_G_weighFrom_69 : decode b_G_weighFrom 69 = .ok (.iadd, 1) := by decide +kernel
theorem d_G_weighFrom_70 : decode b_G_weighFrom 70 = .ok (.iconst 1, 1) := by decide +kernel
theorem d_G_weighFrom_71 : decode b_G_weighFrom 71 = .ok (.iadd, 1) := by decide +kernel
theorem d_G_weighFrom_72 : decode b_G_weighFrom 72 = .ok (.iload_n 2, 1) := by decide +kernel
theorem d_G_weighFrom_73 : decode b_G_weighFrom 73 = .ok (.invokestatic 53, 3) := by decide +kernel
theorem d_G_weighFrom_76 : decode b_G_weighFrom 76 = .ok (.istore_n 3, 1) := by decide +kernel
theorem d_G_weighFrom_77 : decode b_G_weighFrom 77 = .ok (.iload_n 1, 1) := by decide +kernel
theorem d_G_weighFrom_78 : decode b_G_weighFrom 78 = .ok (.iconst 1, 1) := by decide +kernel
theorem d_G_weighFrom_79 : decode b_G_weighFrom 79 = .ok (.iadd, 1) := by decide +kernel
theorem d_G_weighFrom_80 : decode b_G_weighFrom 80 = .ok (.istore 4, 2) := by decide +kernel
theorem d_G_weighFrom_82 : decode b_G_weighFrom 82 = .ok (.iload 4, 2) := by decide +kernel
theorem d_G_weighFrom_84 : decode b_G_weighFrom 84 = .ok (.iload_n 3, 1) := by decide +kernel
theorem d_G_weighFrom_85 : decode b_G_weighFrom 85 = .ok (.if_icmp .ge 27, 3) := by decide +kernel
theorem d_G_weighFrom_88 : decode b_G_weighFrom 88 = .ok (.aload_n 0, 1) := by decide +kernel
theorem d_G_weighFrom_89 : decode b_G_weighFrom 89 = .ok (.getfield 22, 3) := by decide +kernel
theorem d_G_weighFrom_92 : decode b_G_weighFrom 92 = .ok (.iload 4, 2) := by decide +kernel
theorem d_G_weighFrom_94 : decode b_G_weighFrom 94 = .ok (.aload_n 0, 1) := by decide +kernel
theorem d_G_weighFrom_95 : decode b_G_weighFrom 95 = .ok (.aload_n 0, 1) := by decide +kernel
theorem d_G_weighFrom_96 : decode b_G_weighFrom 96 = .ok (.getfield 19, 3) := by decide +kernel
theorem d_G_weighFrom_99 : decode b_G_weighFrom 99 = .ok (.iload 4, 2) := by decide +kernel
theorem d_G_weighFrom_101 : decode b_G_weighFrom 101 = .ok (.iload_n 2, 1) := by decide +kernel
theorem d_G_weighFrom_102 : decode b_G_weighFrom 102 = .ok (.invokevirtual 82, 3) := by decide +kernel
theorem d_G_weighFrom_105 : decode b_G_weighFrom 105 = .ok (.iastore, 1) := by decide +kernel
theorem d_G_weighFrom_106 : decode b_G_weighFrom 106 = .ok (.iinc 4 1, 3) := by decide +kernel
theorem d_G_weighFrom_109 : decode b_G_weighFrom 109 = .ok (.goto (-27), 3) := by decide +kernel
theorem d_G_weighFrom_112 : decode b_G_weighFrom 112 = .ok (.aload_n 0, 1) := by decide +kernel
theorem d_G_weighFrom_113 : decode b_G_weighFrom 113 = .ok (.aload_n 0, 1) := by decide +kernel
theorem d_G_weighFrom_114 : decode b_G_weighFrom 114 = .ok (.getfield 22, 3) := by decide +kernel
theorem d_G_weighFrom_117 : decode b_G_weighFrom 117 = .ok (.iload_n 1, 1) := by decide +kernel
theorem d_G_weighFrom_118 : decode b_G_weighFrom 118 = .ok (.iload_n 2, 1) := by decide +kernel
theorem d_G_weighFrom_119 : decode b_G_weighFrom 119 = .ok (.invokevirtual 82, 3) := by decide +kernel
theorem d_G_weighFrom_122 : decode b_G_weighFrom 122 = .ok (.ireturn, 1) := by decide +kernel
theorem d_G_earliestThrough_0 : decode b_G_earliestThrough 0 = .ok (.iload_n 2, 1) := by decide +kernel
theorem d_G_earliestThrough_1 : decode b_G_earliestThrough 1 = .ok (.bipush 24, 2) := by decide +kernel
theorem d_G_earliestThrough_3 : decode b_G_earliestThrough 3 = .ok (.iadd, 1) := by decide +kernel
theorem d_G_earliestThrough_4 : decode b_G_earliestThrough 4 = .ok (.iconst 1, 1) := by decide +kernel
theorem d_G_earliestThrough_5 : decode b_G_earliestThrough 5 = .ok (.iadd, 1) := by decide +kernel
theorem d_G_earliestThrough_6 : decode b_G_earliestThrough 6 = .ok (.iload_n 3, 1) := by decide +kernel
theorem d_G_earliestThrough_7 : decode b_G_earliestThrough 7 = .ok (.invokestatic 53, 3) := by decide +kernel
theorem d_G_earliestThrough_10 : decode b_G_earliestThrough 10 = .ok (.istore 5, 2) := by decide +kernel
theorem d_G_earliestThrough_12 : decode b_G_earliestThrough 12 = .ok (.iload_n 2, 1) := by decide +kernel
theorem d_G_earliestThrough_13 : decode b_G_earliestThrough 13 = .ok (.iconst 1, 1) := by decide +kernel
theorem d_G_earliestThrough_14 : decode b_G_earliestThrough 14 = .ok (.iadd, 1) := by decide +kernel
theorem d_G_earliestThrough_15 : decode b_G_earliestThrough 15 = .ok (.istore 6, 2) := by decide +kernel
theorem d_G_earliestThrough_17 : decode b_G_earliestThrough 17 = .ok (.iload 6, 2) := by decide +kernel
theorem d_G_earliestThrough_19 : decode b_G_earliestThrough 19 = .ok (.iload 5, 2) := by decide +kernel
theorem d_G_earliestThrough_21 : decode b_G_earliestThrough 21 = .ok (.if_icmp .ge 44, 3) := by decide +kernel
theorem d_G_earliestThrough_24 : decode b_G_earliestThrough 24 = .ok (.aload_n 0, 1) := by decide +kernel
theorem d_G_earliestThrough_25 : decode b_G_earliestThrough 25 = .ok (.iload_n 2, 1) := by decide +kernel
theorem d_G_earliestThrough_26 : decode b_G_earliestThrough 26 = .ok (.iload 6, 2) := by decide +kernel
theorem d_G_earliestThrough_28 : decode b_G_earliestThrough 28 = .ok (.iload_n 2, 1) := by decide +kernel
theorem d_G_earliestThrough_29 : decode b_G_earliestThrough 29 = .ok (.isub, 1) := by decide +kernel
theorem d_G_earliestThrough_30 : decode b_G_earliestThrough 30 = .ok (.invokevirtual 79, 3) := by decide +kernel
theorem d_G_earliestThrough_33 : decode b_G_earliestThrough 33 = .ok (.istore 7, 2) := by decide +kernel
theorem d_G_earliestThrough_35 : decode b_G_earliestThrough 35 = .ok (.iload 7, 2) := by decide +kernel
theorem d_G_earliestThrough_37 : decode b_G_earliestThrough 37 = .ok (.iconst (-1), 1) := by decide +kernel
theorem d_G_earliestThrough_38 : decode b_G_earliestThrough 38 = .ok (.if_icmp .eq 21, 3) := by decide +kernel
theorem d_G_earliestThrough_41 : decode b_G_earliestThrough 41 = .ok (.ldc 86, 2) := by decide +kernel
theorem d_G_earliestThrough_43 : decode b_G_earliestThrough 43 = .ok (.iload 7, 2) := by decide +kernel
theorem d_G_earliestThrough_45 : decode b_G_earliestThrough 45 = .ok (.iadd, 1) := by decide +kernel
theorem d_G_earliestThrough_46 : decode b_G_earliestThrough 46 = .ok (.aload_n 1, 1) := by decide +kernel
theorem d_G_earliestThrough_47 : decode b_G_earliestThrough 47 = .ok (.iload 6, 2) := by decide +kernel
theorem d_G_earliestThrough_49 : decode b_G_earliestThrough 49 = .ok (.iaload, 1) := by decide +kernel
theorem d_G_earliestThrough_50 : decode b_G_earliestThrough 50 = .ok (.iadd, 1) := by decide +kernel
theorem d_G_earliestThrough_51 : decode b_G_earliestThrough 51 = .ok (.iload 4, 2) := by decide +kernel
theorem d_G_earliestThrough_53 : decode b_G_earliestThrough 53 = .ok (.if_icmp .ne 6, 3) := by decide +kernel
theorem d_G_earliestThrough_56 : decode b_G_earliestThrough 56 = .ok (.iload 6, 2) := by decide +kernel
theorem d_G_earliestThrough_58 : decode b_G_earliestThrough 58 = .ok (.ireturn, 1) := by decide +kernel
theorem d_G_earliestThrough_59 : decode b_G_earliestThrough 59 = .ok (.iinc 6 1, 3) := by decide +kernel
theorem d_G_earliestThrough_62 : decode b_G_earliestThrough 62 = .ok (.goto (-45), 3) := by decide +kernel
theorem d_G_earliestThrough_65 : decode b_G_earliestThrough 65 = .ok (.iconst (-1), 1) := by decide +kernel
theorem d_G_earliestThrough_66 : decode b_G_earliestThrough 66 = .ok (.ireturn, 1) := by decide +kernel
theorem d_G_follow_0 : decode b_G_follow 0 = .ok (.aload_n 0, 1) := by decide +kernel
theorem d_G_follow_1 : decode b_G_follow 1 = .ok (.getfield 25, 3) := by decide +kernel
theorem d_G_follow_4 : decode b_G_follow 4 = .ok (.iconst 0, 1) := by decide +kernel
theorem d_G_follow_5 : decode b_G_follow 5 = .ok (.iload_n 1, 1) := by decide +kernel
theorem d_G_follow_6 : decode b_G_follow 6 = .ok (.iastore, 1) := by decide +kernel
theorem d_G_follow_7 : decode b_G_follow 7 = .ok (.aload_n 0, 1) := by decide +kernel
theorem d_G_follow_8 : decode b_G_follow 8 = .ok (.iconst 1, 1) := by decide +kernel
theorem d_G_follow_9 : decode b_G_follow 9 = .ok (.putfield 40, 3) := by decide +kernel
theorem d_G_follow_12 : decode b_G_follow 12 = .ok (.aload_n 0, 1) := by decide +kernel
theorem d_G_follow_13 : decode b_G_follow 13 = .ok (.getfield 22, 3) := by decide +kernel
theorem d_G_follow_16 : decode b_G_follow 16 = .ok (.astore 4, 2) := by decide +kernel
theorem d_G_follow_18 : decode b_G_follow 18 = .ok (.iload_n 3, 1) := by decide +kernel
theorem d_G_follow_19 : decode b_G_follow 19 = .ok (.istore 5, 2) := by decide +kernel
theorem d_G_follow_21 : decode b_G_follow 21 = .ok (.aload_n 0, 1) := by decide +kernel
theorem d_G_follow_22 : decode b_G_follow 22 = .ok (.aload 4, 2) := by decide +kernel
theorem d_G_follow_24 : decode b_G_follow 24 = .ok (.iload_n 1, 1) := by decide +kernel
theorem d_G_follow_25 : decode b_G_follow 25 = .ok (.iload_n 2, 1) := by decide +kernel
theorem d_G_follow_26 : decode b_G_follow 26 = .ok (.iload 5, 2) := by decide +kernel
theorem d_G_follow_28 : decode b_G_follow 28 = .ok (.invokevirtual 87, 3) := by decide +kernel
theorem d_G_follow_31 : decode b_G_follow 31 = .ok (.istore 6, 2) := by decide +kernel
theorem d_G_follow_33 : decode b_G_follow 33 = .ok (.iload 6, 2) := by decide +kernel
theorem d_G_follow_35 : decode b_G_follow 35 = .ok (.iconst (-1), 1) := by decide +kernel
theorem d_G_follow_36 : decode b_G_follow 36 = .ok (.if_icmp .eq 61, 3) := by decide +kernel
theorem d_G_follow_39 : decode b_G_follow 39 = .ok (.aload_n 0, 1) := by decide +kernel
theorem d_G_follow_40 : decode b_G_follow 40 = .ok (.getfield 40, 3) := by decide +kernel
theorem d_G_follow_43 : decode b_G_follow 43 = .ok (.iload_n 2, 1) := by decide +kernel
theorem d_G_follow_44 : decode b_G_follow 44 = .ok (.if_icmp .ge 53, 3) := by decide +kernel
theorem d_G_follow_47 : decode b_G_follow 47 = .ok (.aload_n 0, 1) := by decide +kernel
theorem d_G_follow_48 : decode b_G_follow 48 = .ok (.getfield 25, 3) := by decide +kernel
theorem d_G_follow_51 : decode b_G_follow 51 = .ok (.aload_n 0, 1) := by decide +kernel
theorem d_G_follow_52 : decode b_G_follow 52 = .ok (.getfield 40, 3) := by decide +kernel
theorem d_G_follow_55 : decode b_G_follow 55 = .ok (.iload 6, 2) := by decide +kernel
theorem d_G_follow_57 : decode b_G_follow 57 = .ok (.iastore, 1) := by decide +kernel
theorem d_G_follow_58 : decode b_G_follow 58 = .ok (.aload_n 0, 1) := by decide +kernel
theorem d_G_follow_59 : decode b_G_follow 59 = .ok (.dup, 1) := by decide +kernel
theorem d_G_follow_60 : decode b_G_follow 60 = .ok (.getfield 40, 3) := by decide +kernel
theorem d_G_follow_63 : decode b_G_follow 63 = .ok (.iconst 1, 1) := by decide +kernel
theorem d_G_follow_64 : decode b_G_follow 64 = .ok (.iadd, 1) := by decide +kernel
theorem d_G_follow_65 : decode b_G_follow 65 = .ok (.putfield 40, 3) := by decide +kernel
theorem d_G_follow_68 : decode b_G_follow 68 = .ok (.aload 4, 2) := by decide +kernel
theorem d_G_follow_70 : decode b_G_follow 70 = .ok (.iload 6, 2) := by decide +kernel
theorem d_G_follow_72 : decode b_G_follow 72 = .ok (.iaload, 1) := by decide +kernel
theorem d_G_follow_73 : decode b_G_follow 73 = .ok (.istore 5, 2) := by decide +kernel
theorem d_G_follow_75 : decode b_G_follow 75 = .ok (.aload_n 0, 1) := by decide +kernel
theorem d_G_follow_76 : decode b_G_follow 76 = .ok (.getfield 19, 3) := by decide +kernel
theorem d_G_follow_79 : decode b_G_follow 79 = .ok (.astore 4, 2) := by decide +kernel
theorem d_G_follow_81 : decode b_G_follow 81 = .ok (.aload_n 0, 1) := by decide +kernel
theorem d_G_follow_82 : decode b_G_follow 82 = .ok (.aload 4, 2) := by decide +kernel
theorem d_G_follow_84 : decode b_G_follow 84 = .ok (.iload 6, 2) := by decide +kernel
theorem d_G_follow_86 : decode b_G_follow 86 = .ok (.iload_n 2, 1) := by decide +kernel
theorem d_G_follow_87 : decode b_G_follow 87 = .ok (.iload 5, 2) := by decide +kernel
theorem d_G_follow_89 : decode b_G_follow 89 = .ok (.invokevirtual 87, 3) := by decide +kernel
theorem d_G_follow_92 : decode b_G_follow 92 = .ok (.istore 6, 2) := by decide +kernel
theorem d_G_follow_94 : decode b_G_follow 94 = .ok (.goto (-61), 3) := by decide +kernel
theorem d_G_follow_97 : decode b_G_follow 97 = .ok (.return_, 1) := by decide +kernel
theorem d_Jm_floorMod_0 : decode b_Jm_floorMod 0 = .ok (.iload_n 0, 1) := by decide +kernel
theorem d_Jm_floorMod_1 : decode b_Jm_floorMod 1 = .ok (.iload_n 1, 1) := by decide +kernel
theorem d_Jm_floorMod_2 : decode b_Jm_floorMod 2 = .ok (.irem, 1) := by decide +kernel
theorem d_Jm_floorMod_3 : decode b_Jm_floorMod 3 = .ok (.istore_n 2, 1) := by decide +kernel
theorem d_Jm_floorMod_4 : decode b_Jm_floorMod 4 = .ok (.iload_n 0, 1) := by decide +kernel
theorem d_Jm_floorMod_5 : decode b_Jm_floorMod 5 = .ok (.iload_n 1, 1) := by decide +kernel
theorem d_Jm_floorMod_6 : decode b_Jm_floorMod 6 = .ok (.ixor, 1) := by decide +kernel
theorem d_Jm_floorMod_7 : decode b_Jm_floorMod 7 = .ok (.ifCond .ge 11, 3) := by decide +kernel
theorem d_Jm_floorMod_10 : decode b_Jm_floorMod 10 = .ok (.iload_n 2, 1) := by decide +kernel
theorem d_Jm_floorMod_11 : decode b_Jm_floorMod 11 = .ok (.ifCond .eq 7, 3) := by decide +kernel
theorem d_Jm_floorMod_14 : decode b_Jm_floorMod 14 = .ok (.iload_n 2, 1) := by decide +kernel
theorem d_Jm_floorMod_15 : decode b_Jm_floorMod 15 = .ok (.iload_n 1, 1) := by decide +kernel
theorem d_Jm_floorMod_16 : decode b_Jm_floorMod 16 = .ok (.iadd, 1) := by decide +kernel
theorem d_Jm_floorMod_17 : decode b_Jm_floorMod 17 = .ok (.ireturn, 1) := by decide +kernel
theorem d_Jm_floorMod_18 : decode b_Jm_floorMod 18 = .ok (.iload_n 2, 1) := by decide +kernel
theorem d_Jm_floorMod_19 : decode b_Jm_floorMod 19 = .ok (.ireturn, 1) := by decide +kernel
theorem d_G_cornerBeside_0 : decode b_G_cornerBeside 0 = .ok (.aload_n 0, 1) := by decide +kernel
theorem d_G_cornerBeside_1 : decode b_G_cornerBeside 1 = .ok (.getfield 40, 3) := by decide +kernel
theorem d_G_cornerBeside_4 : decode b_G_cornerBeside 4 = .ok (.iconst 1, 1) := by decide +kernel
theorem d_G_cornerBeside_5 : decode b_G_cornerBeside 5 = .ok (.if_icmp .ge 7, 3) := by decide +kernel
theorem d_G_cornerBeside_8 : decode b_G_cornerBeside 8 = .ok (.iconst 0, 1) := by decide +kernel
theorem d_G_cornerBeside_9 : decode b_G_cornerBeside 9 = .ok (.goto 13, 3) := by decide +kernel
theorem d_G_cornerBeside_12 : decode b_G_cornerBeside 12 = .ok (.iload_n 1, 1) := by decide +kernel
theorem d_G_cornerBeside_13 : decode b_G_cornerBeside 13 = .ok (.iload_n 2, 1) := by decide +kernel
theorem d_G_cornerBeside_14 : decode b_G_cornerBeside 14 = .ok (.iadd, 1) := by decide +kernel
theorem d_G_cornerBeside_15 : decode b_G_cornerBeside 15 = .ok (.aload_n 0, 1) := by decide +kernel
theorem d_G_cornerBeside_16 : decode b_G_cornerBeside 16 = .ok (.getfield 40, 3) := by decide +kernel
theorem d_G_cornerBeside_19 : decode b_G_cornerBeside 19 = .ok (.invokestatic 113, 3) := by decide +kernel
theorem d_G_cornerBeside_22 : decode b_G_cornerBeside 22 = .ok (.ireturn, 1) := by decide +kernel
theorem d_Ji_compare_0 : decode b_Ji_compare 0 = .ok (.iload_n 0, 1) := by decide +kernel
theorem d_Ji_compare_1 : decode b_Ji_compare 1 = .ok (.iload_n 1, 1) := by decide +kernel
theorem d_Ji_compare_2 : decode b_Ji_compare 2 = .ok (.if_icmp .ge 7, 3) := by decide +kernel
theorem d_Ji_compare_5 : decode b_Ji_compare 5 = .ok (.iconst (-1), 1) := by decide +kernel
theorem d_Ji_compare_6 : decode b_Ji_compare 6 = .ok (.goto 13, 3) := by decide +kernel
theorem d_Ji_compare_9 : decode b_Ji_compare 9 = .ok (.iload_n 0, 1) := by decide +kernel
theorem d_Ji_compare_10 : decode b_Ji_compare 10 = .ok (.iload_n 1, 1) := by decide +kernel
theorem d_Ji_compare_11 : decode b_Ji_compare 11 = .ok (.if_icmp .ne 7, 3) := by decide +kernel
theorem d_Ji_compare_14 : decode b_Ji_compare 14 = .ok (.iconst 0, 1) := by decide +kernel
theorem d_Ji_compare_15 : decode b_Ji_compare 15 = .ok (.goto 4, 3) := by decide +kernel
theorem d_Ji_compare_18 : decode b_Ji_compare 18 = .ok (.iconst 1, 1) := by decide +kernel
theorem d_Ji_compare_19 : decode b_Ji_compare 19 = .ok (.ireturn, 1) := by decide +kernel
theorem d_G_measureCorner_0 : decode b_G_measureCorner 0 = .ok (.aload_n 0, 1) := by decide +kernel
theorem d_G_measureCorner_1 : decode b_G_measureCorner 1 = .ok (.iload_n 1, 1) := by decide +kernel
theorem d_G_measureCorner_2 : decode b_G_measureCorner 2 = .ok (.iconst (-1), 1) := by decide +kernel
theorem d_G_measureCorner_3 : decode b_G_measureCorner 3 = .ok (.invokevirtual 102, 3) := by decide +kernel
theorem d_G_measureCorner_6 : decode b_G_measureCorner 6 = .ok (.istore_n 2, 1) := by decide +kernel
theorem d_G_measureCorner_7 : decode b_G_measureCorner 7 = .ok (.aload_n 0, 1) := by decide +kernel
theorem d_G_measureCorner_8 : decode b_G_measureCorner 8 = .ok (.iload_n 1, 1) := by decide +kernel
theorem d_G_measureCorner_9 : decode b_G_measureCorner 9 = .ok (.iconst 1, 1) := by decide +kernel
theorem d_G_measureCorner_10 : decode b_G_measureCorner 10 = .ok (.invokevirtual 102, 3) := by decide +kernel
theorem d_G_measureCorner_13 : decode b_G_measureCorner 13 = .ok (.istore_n 3, 1) := by decide +kernel
theorem d_G_measureCorner_14 : decode b_G_measureCorner 14 = .ok (.aload_n 0, 1) := by decide +kernel
theorem d_G_measureCorner_15 : decode b_G_measureCorner 15 = .ok (.getfield 28, 3) := by decide +kernel
theorem d_G_measureCorner_18 : decode b_G_measureCorner 18 = .ok (.iload_n 1, 1) := by decide +kernel
theorem d_G_measureCorner_19 : decode b_G_measureCorner 19 = .ok (.iaload, 1) := by decide +kernel
theorem d_G_measureCorner_20 : decode b_G_measureCorner 20 = .ok (.aload_n 0, 1) := by decide +kernel
theorem d_G_measureCorner_21 : decode b_G_measureCorner 21 = .ok (.getfield 28, 3) := by decide +kernel
theorem d_G_measureCorner_24 : decode b_G_measureCorner 24 = .ok (.iload_n 2, 1) := by decide +kernel
theorem d_G_measureCorner_25 : decode b_G_measureCorner 25 = .ok (.iaload, 1) := by decide +kernel
theorem d_G_measureCorner_26 : decode b_G_measureCorner 26 = .ok (.isub, 1) := by decide +kernel
theorem d_G_measureCorner_27 : decode b_G_measureCorner 27 = .ok (.istore 4, 2) := by decide +kernel
theorem d_G_measureCorner_29 : decode b_G_measureCorner 29 = .ok (.aload_n 0, 1) := by decide +kernel
theorem d_G_measureCorner_30 : decode b_G_measureCorner 30 = .ok (.getfield 31, 3) := by decide +kernel
theorem d_G_measureCorner_33 : decode b_G_measureCorner 33 = .ok (.iload_n 1, 1) := by decide +kernel
theorem d_G_measureCorner_34 : decode b_G_measureCorner 34 = .ok (.iaload, 1) := by decide +kernel
theorem d_G_measureCorner_35 : decode b_G_measureCorner 35 = .ok (.aload_n 0, 1) := by decide +kernel
theorem d_G_measureCorner_36 : decode b_G_measureCorner 36 = .ok (.getfield 31, 3) := by decide +kernel
theorem d_G_measureCorner_39 : decode b_G_measureCorner 39 = .ok (.iload_n 2, 1) := by decide +kernel
theorem d_G_measureCorner_40 : decode b_G_measureCorner 40 = .ok (.iaload, 1) := by decide +kernel
theorem d_G_measureCorner_41 : decode b_G_measureCorner 41 = .ok (.isub, 1) := by decide +kernel
theorem d_G_measureCorner_42 : decode b_G_measureCorner 42 = .ok (.istore 5, 2) := by decide +kernel
theorem d_G_measureCorner_44 : decode b_G_measureCorner 44 = .ok (.aload_n 0, 1) := by decide +kernel
theorem d_G_measureCorner_45 : decode b_G_measureCorner 45 = .ok (.getfield 28, 3) := by decide +kernel
theorem d_G_measureCorner_48 : decode b_G_measureCorner 48 = .ok (.iload_n 3, 1) := by decide +kernel
theorem d_G_measureCorner_49 : decode b_G_measureCorner 49 = .ok (.iaload, 1) := by decide +kernel
theorem d_G_measureCorner_50 : decode b_G_measureCorner 50 = .ok (.aload_n 0, 1) := by decide +kernel
theorem d_G_measureCorner_51 : decode b_G_measureCorner 51 = .ok (.getfield 28, 3) := by decide +kernel
theorem d_G_measureCorner_54 : decode b_G_measureCorner 54 = .ok (.iload_n 1, 1) := by decide +kernel
theorem d_G_measureCorner_55 : decode b_G_measureCorner 55 = .ok (.iaload, 1) := by decide +kernel
theorem d_G_measureCorner_56 : decode b_G_measureCorner 56 = .ok (.isub, 1) := by decide +kernel
theorem d_G_measureCorner_57 : decode b_G_measureCorner 57 = .ok (.istore 6, 2) := by decide +kernel
theorem d_G_measureCorner_59 : decode b_G_measureCorner 59 = .ok (.aload_n 0, 1) := by decide +kernel
theorem d_G_measureCorner_60 : decode b_G_measureCorner 60 = .ok (.getfield 31, 3) := by decide +kernel
theorem d_G_measureCorner_63 : decode b_G_measureCorner 63 = .ok (.iload_n 3, 1) := by decide +kernel
theorem d_G_measureCorner_64 : decode b_G_measureCorner 64 = .ok (.iaload, 1) := by decide +kernel
theorem d_G_measureCorner_65 : decode b_G_measureCorner 65 = .ok (.aload_n 0, 1) := by decide +kernel
theorem d_G_measureCorner_66 : decode b_G_measureCorner 66 = .ok (.getfield 31, 3) := by decide +kernel
theorem d_G_measureCorner_69 : decode b_G_measureCorner 69 = .ok (.iload_n 1, 1) := by decide +kernel
theorem d_G_measureCorner_70 : decode b_G_measureCorner 70 = .ok (.iaload, 1) := by decide +kernel
theorem d_G_measureCorner_71 : decode b_G_measureCorner 71 = .ok (.isub, 1) := by decide +kernel
theorem d_G_measureCorner_72 : decode b_G_measureCorner 72 = .ok (.istore 7, 2) := by decide +kernel
theorem d_G_measureCorner_74 : decode b_G_measureCorner 74 = .ok (.iload 4, 2) := by decide +kernel
theorem d_G_measureCorner_76 : decode b_G_measureCorner 76 = .ok (.iload 6, 2) := by decide +kernel
theorem d_G_measureCorner_78 : decode b_G_measureCorner 78 = .ok (.imul, 1) := by decide +kernel
theorem d_G_measureCorner_79 : decode b_G_measureCorner 79 = .ok (.iload 5, 2) := by decide +kernel
theorem d_G_measureCorner_81 : decode b_G_measureCorner 81 = .ok (.iload 7, 2) := by decide +kernel
theorem d_G_measureCorner_83 : decode b_G_measureCorner 83 = .ok (.imul, 1) := by decide +kernel
theorem d_G_measureCorner_84 : decode b_G_measureCorner 84 = .ok (.iadd, 1) := by decide +kernel
theorem d_G_measureCorner_85 : decode b_G_measureCorner 85 = .ok (.istore 8, 2) := by decide +kernel
theorem d_G_measureCorner_87 : decode b_G_measureCorner 87 = .ok (.iload 4, 2) := by decide +kernel
theorem d_G_measureCorner_89 : decode b_G_measureCorner 89 = .ok (.iload 7, 2) := by decide +kernel
theorem d_G_measureCorner_91 : decode b_G_measureCorner 91 = .ok (.imul, 1) := by decide +kernel
theorem d_G_measureCorner_92 : decode b_G_measureCorner 92 = .ok (.iload 5, 2) := by decide +kernel
theorem d_G_measureCorner_94 : decode b_G_measureCorner 94 = .ok (.iload 6, 2) := by decide +kernel
theorem d_G_measureCorner_96 : decode b_G_measureCorner 96 = .ok (.imul, 1) := by decide +kernel
theorem d_G_measureCorner_97 : decode b_G_measureCorner 97 = .ok (.isub, 1) := by decide +kernel
theorem d_G_measureCorner_98 : decode b_G_measureCorner 98 = .ok (.istore 9, 2) := by decide +kernel
theorem d_G_measureCorner_100 : decode b_G_measureCorner 100 = .ok (.aload_n 0, 1) := by decide +kernel
theorem d_G_measureCorner_101 : decode b_G_measureCorner 101 = .ok (.getfield 34, 3) := by decide +kernel
theorem d_G_measureCorner_104 : decode b_G_measureCorner 104 = .ok (.iload_n 1, 1) := by decide +kernel
theorem d_G_measureCorner_105 : decode b_G_measureCorner 105 = .ok (.iload 8, 2) := by decide +kernel
theorem d_G_measureCorner_107 : decode b_G_measureCorner 107 = .ok (.ifCond .gt 8, 3) := by decide +kernel
theorem d_G_measureCorner_110 : decode b_G_measureCorner 110 = .ok (.bipush 64, 2) := by decide +kernel
