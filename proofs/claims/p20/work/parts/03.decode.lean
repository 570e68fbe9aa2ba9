theorem dJ13_compare_74951_0 : decode cJ13_compare_74951 0 = .ok (.lload_n 0, 1) := by decide +kernel
theorem dJ13_compare_74951_1 : decode cJ13_compare_74951 1 = .ok (.lload_n 2, 1) := by decide +kernel
theorem dJ13_compare_74951_2 : decode cJ13_compare_74951 2 = .ok (.lcmp, 1) := by decide +kernel
theorem dJ13_compare_74951_3 : decode cJ13_compare_74951 3 = .ok (.ifCond .ge 7, 3) := by decide +kernel
theorem dJ13_compare_74951_6 : decode cJ13_compare_74951 6 = .ok (.iconst (-1), 1) := by decide +kernel
theorem dJ13_compare_74951_7 : decode cJ13_compare_74951 7 = .ok (.goto 14, 3) := by decide +kernel
theorem dJ13_compare_74951_10 : decode cJ13_compare_74951 10 = .ok (.lload_n 0, 1) := by decide +kernel
theorem dJ13_compare_74951_11 : decode cJ13_compare_74951 11 = .ok (.lload_n 2, 1) := by decide +kernel
theorem dJ13_compare_74951_12 : decode cJ13_compare_74951 12 = .ok (.lcmp, 1) := by decide +kernel
theorem dJ13_compare_74951_13 : decode cJ13_compare_74951 13 = .ok (.ifCond .ne 7, 3) := by decide +kernel
theorem dJ13_compare_74951_16 : decode cJ13_compare_74951 16 = .ok (.iconst 0, 1) := by decide +kernel
theorem dJ13_compare_74951_17 : decode cJ13_compare_74951 17 = .ok (.goto 4, 3) := by decide +kernel
theorem dJ13_compare_74951_20 : decode cJ13_compare_74951 20 = .ok (.iconst 1, 1) := by decide +kernel
theorem dJ13_compare_74951_21 : decode cJ13_compare_74951 21 = .ok (.ireturn, 1) := by decide +kernel
theorem dJ7_fill_53178_0 : decode cJ7_fill_53178 0 = .ok (.iconst 0, 1) := by decide +kernel
theorem dJ7_fill_53178_1 : decode cJ7_fill_53178 1 = .ok (.istore_n 2, 1) := by decide +kernel
theorem dJ7_fill_53178_2 : decode cJ7_fill_53178 2 = .ok (.aload_n 0, 1) := by decide +kernel
theorem dJ7_fill_53178_3 : decode cJ7_fill_53178 3 = .ok (.arraylength, 1) := by decide +kernel
theorem dJ7_fill_53178_4 : decode cJ7_fill_53178 4 = .ok (.istore_n 3, 1) := by decide +kernel
theorem dJ7_fill_53178_5 : decode cJ7_fill_53178 5 = .ok (.iload_n 2, 1) := by decide +kernel
theorem dJ7_fill_53178_6 : decode cJ7_fill_53178 6 = .ok (.iload_n 3, 1) := by decide +kernel
theorem dJ7_fill_53178_7 : decode cJ7_fill_53178 7 = .ok (.if_icmp .ge 13, 3) := by decide +kernel
theorem dJ7_fill_53178_10 : decode cJ7_fill_53178 10 = .ok (.aload_n 0, 1) := by decide +kernel
theorem dJ7_fill_53178_11 : decode cJ7_fill_53178 11 = .ok (.iload_n 2, 1) := by decide +kernel
theorem dJ7_fill_53178_12 : decode cJ7_fill_53178 12 = .ok (.iload_n 1, 1) := by decide +kernel
theorem dJ7_fill_53178_13 : decode cJ7_fill_53178 13 = .ok (.iastore, 1) := by decide +kernel
theorem dJ7_fill_53178_14 : decode cJ7_fill_53178 14 = .ok (.iinc 2 1, 3) := by decide +kernel
theorem dJ7_fill_53178_17 : decode cJ7_fill_53178 17 = .ok (.goto (-12), 3) := by decide +kernel
theorem dJ7_fill_53178_20 : decode cJ7_fill_53178 20 = .ok (.return_, 1) := by decide +kernel
theorem dJ7_fill_d0a16_0 : decode cJ7_fill_d0a16 0 = .ok (.iconst 0, 1) := by decide +kernel
theorem dJ7_fill_d0a16_1 : decode cJ7_fill_d0a16 1 = .ok (.istore_n 3, 1) := by decide +kernel
theorem dJ7_fill_d0a16_2 : decode cJ7_fill_d0a16 2 = .ok (.aload_n 0, 1) := by decide +kernel
theorem dJ7_fill_d0a16_3 : decode cJ7_fill_d0a16 3 = .ok (.arraylength, 1) := by decide +kernel
theorem dJ7_fill_d0a16_4 : decode cJ7_fill_d0a16 4 = .ok (.istore 4, 2) := by decide +kernel
theorem dJ7_fill_d0a16_6 : decode cJ7_fill_d0a16 6 = .ok (.iload_n 3, 1) := by decide +kernel
theorem dJ7_fill_d0a16_7 : decode cJ7_fill_d0a16 7 = .ok (.iload 4, 2) := by decide +kernel
theorem dJ7_fill_d0a16_9 : decode cJ7_fill_d0a16 9 = .ok (.if_icmp .ge 13, 3) := by decide +kernel
theorem dJ7_fill_d0a16_12 : decode cJ7_fill_d0a16 12 = .ok (.aload_n 0, 1) := by decide +kernel
theorem dJ7_fill_d0a16_13 : decode cJ7_fill_d0a16 13 = .ok (.iload_n 3, 1) := by decide +kernel
theorem dJ7_fill_d0a16_14 : decode cJ7_fill_d0a16 14 = .ok (.lload_n 1, 1) := by decide +kernel
theorem dJ7_fill_d0a16_15 : decode cJ7_fill_d0a16 15 = .ok (.lastore, 1) := by decide +kernel
theorem dJ7_fill_d0a16_16 : decode cJ7_fill_d0a16 16 = .ok (.iinc 3 1, 3) := by decide +kernel
theorem dJ7_fill_d0a16_19 : decode cJ7_fill_d0a16 19 = .ok (.goto (-13), 3) := by decide +kernel
theorem dJ7_fill_d0a16_22 : decode cJ7_fill_d0a16 22 = .ok (.return_, 1) := by decide +kernel
theorem dX0_carryOut_0 : decode cX0_carryOut 0 = .ok (.iconst 0, 1) := by decide +kernel
theorem dX0_carryOut_1 : decode cX0_carryOut 1 = .ok (.istore_n 2, 1) := by decide +kernel
theorem dX0_carryOut_2 : decode cX0_carryOut 2 = .ok (.iconst 0, 1) := by decide +kernel
theorem dX0_carryOut_3 : decode cX0_carryOut 3 = .ok (.istore_n 3, 1) := by decide +kernel
theorem dX0_carryOut_4 : decode cX0_carryOut 4 = .ok (.iconst 0, 1) := by decide +kernel
theorem dX0_carryOut_5 : decode cX0_carryOut 5 = .ok (.istore 4, 2) := by decide +kernel
theorem dX0_carryOut_7 : decode cX0_carryOut 7 = .ok (.iload 4, 2) := by decide +kernel
theorem dX0_carryOut_9 : decode cX0_carryOut 9 = .ok (.bipush 10, 2) := by decide +kernel
theorem dX0_carryOut_11 : decode cX0_carryOut 11 = .ok (.if_icmp .ge 79, 3) := by decide +kernel
theorem dX0_carryOut_14 : decode cX0_carryOut 14 = .ok (.aload_n 0, 1) := by decide +kernel
theorem dX0_carryOut_15 : decode cX0_carryOut 15 = .ok (.getfield 27, 3) := by decide +kernel
theorem dX0_carryOut_18 : decode cX0_carryOut 18 = .ok (.iload 4, 2) := by decide +kernel
theorem dX0_carryOut_20 : decode cX0_carryOut 20 = .ok (.iaload, 1) := by decide +kernel
theorem dX0_carryOut_21 : decode cX0_carryOut 21 = .ok (.istore 5, 2) := by decide +kernel
theorem dX0_carryOut_23 : decode cX0_carryOut 23 = .ok (.iload 5, 2) := by decide +kernel
theorem dX0_carryOut_25 : decode cX0_carryOut 25 = .ok (.ifCond .le 59, 3) := by decide +kernel
theorem dX0_carryOut_28 : decode cX0_carryOut 28 = .ok (.iload_n 2, 1) := by decide +kernel
theorem dX0_carryOut_29 : decode cX0_carryOut 29 = .ok (.aload_n 0, 1) := by decide +kernel
theorem dX0_carryOut_30 : decode cX0_carryOut 30 = .ok (.getfield 35, 3) := by decide +kernel
theorem dX0_carryOut_33 : decode cX0_carryOut 33 = .ok (.getfield 71, 3) := by decide +kernel
theorem dX0_carryOut_36 : decode cX0_carryOut 36 = .ok (.if_icmp .ge 48, 3) := by decide +kernel
theorem dX0_carryOut_39 : decode cX0_carryOut 39 = .ok (.aload_n 0, 1) := by decide +kernel
theorem dX0_carryOut_40 : decode cX0_carryOut 40 = .ok (.getfield 35, 3) := by decide +kernel
theorem dX0_carryOut_43 : decode cX0_carryOut 43 = .ok (.iload_n 2, 1) := by decide +kernel
theorem dX0_carryOut_44 : decode cX0_carryOut 44 = .ok (.iload_n 1, 1) := by decide +kernel
theorem dX0_carryOut_45 : decode cX0_carryOut 45 = .ok (.invokevirtual 75, 3) := by decide +kernel
theorem dX0_carryOut_48 : decode cX0_carryOut 48 = .ok (.ifCond .ne 6, 3) := by decide +kernel
theorem dX0_carryOut_51 : decode cX0_carryOut 51 = .ok (.goto 27, 3) := by decide +kernel
theorem dX0_carryOut_54 : decode cX0_carryOut 54 = .ok (.aload_n 0, 1) := by decide +kernel
theorem dX0_carryOut_55 : decode cX0_carryOut 55 = .ok (.getfield 35, 3) := by decide +kernel
theorem dX0_carryOut_58 : decode cX0_carryOut 58 = .ok (.iload_n 2, 1) := by decide +kernel
theorem dX0_carryOut_59 : decode cX0_carryOut 59 = .ok (.invokevirtual 79, 3) := by decide +kernel
theorem dX0_carryOut_62 : decode cX0_carryOut 62 = .ok (.aload_n 0, 1) := by decide +kernel
theorem dX0_carryOut_63 : decode cX0_carryOut 63 = .ok (.getfield 35, 3) := by decide +kernel
theorem dX0_carryOut_66 : decode cX0_carryOut 66 = .ok (.iload_n 2, 1) := by decide +kernel
theorem dX0_carryOut_67 : decode cX0_carryOut 67 = .ok (.iload 4, 2) := by decide +kernel
theorem dX0_carryOut_69 : decode cX0_carryOut 69 = .ok (.invokevirtual 83, 3) := by decide +kernel
theorem dX0_carryOut_72 : decode cX0_carryOut 72 = .ok (.iinc 5 (-1), 3) := by decide +kernel
theorem dX0_carryOut_75 : decode cX0_carryOut 75 = .ok (.iinc 3 1, 3) := by decide +kernel
theorem dX0_carryOut_78 : decode cX0_carryOut 78 = .ok (.iinc 2 1, 3) := by decide +kernel
theorem dX0_carryOut_81 : decode cX0_carryOut 81 = .ok (.goto (-58), 3) := by decide +kernel
theorem dX0_carryOut_84 : decode cX0_carryOut 84 = .ok (.iinc 4 1, 3) := by decide +kernel
theorem dX0_carryOut_87 : decode cX0_carryOut 87 = .ok (.goto (-80), 3) := by decide +kernel
theorem dX0_carryOut_90 : decode cX0_carryOut 90 = .ok (.iload_n 3, 1) := by decide +kernel
theorem dX0_carryOut_91 : decode cX0_carryOut 91 = .ok (.ireturn, 1) := by decide +kernel
theorem dX0_fareOf_0 : decode cX0_fareOf 0 = .ok (.iload_n 3, 1) := by decide +kernel
theorem dX0_fareOf_1 : decode cX0_fareOf 1 = .ok (.bipush 6, 2) := by decide +kernel
theorem dX0_fareOf_3 : decode cX0_fareOf 3 = .ok (.iadd, 1) := by decide +kernel
theorem dX0_fareOf_4 : decode cX0_fareOf 4 = .ok (.iconst 1, 1) := by decide +kernel
theorem dX0_fareOf_5 : decode cX0_fareOf 5 = .ok (.isub, 1) := by decide +kernel
theorem dX0_fareOf_6 : decode cX0_fareOf 6 = .ok (.bipush 6, 2) := by decide +kernel
theorem dX0_fareOf_8 : decode cX0_fareOf 8 = .ok (.idiv, 1) := by decide +kernel
theorem dX0_fareOf_9 : decode cX0_fareOf 9 = .ok (.i2l, 1) := by decide +kernel
theorem dX0_fareOf_10 : decode cX0_fareOf 10 = .ok (.aload_n 0, 1) := by decide +kernel
theorem dX0_fareOf_11 : decode cX0_fareOf 11 = .ok (.getfield 31, 3) := by decide +kernel
theorem dX0_fareOf_14 : decode cX0_fareOf 14 = .ok (.getfield 66, 3) := by decide +kernel
theorem dX0_fareOf_17 : decode cX0_fareOf 17 = .ok (.iload_n 2, 1) := by decide +kernel
theorem dX0_fareOf_18 : decode cX0_fareOf 18 = .ok (.aaload, 1) := by decide +kernel
theorem dX0_fareOf_19 : decode cX0_fareOf 19 = .ok (.iload_n 1, 1) := by decide +kernel
theorem dX0_fareOf_20 : decode cX0_fareOf 20 = .ok (.iaload, 1) := by decide +kernel
theorem dX0_fareOf_21 : decode cX0_fareOf 21 = .ok (.i2l, 1) := by decide +kernel
theorem dX0_fareOf_22 : decode cX0_fareOf 22 = .ok (.lmul, 1) := by decide +kernel
theorem dX0_fareOf_23 : decode cX0_fareOf 23 = .ok (.lreturn, 1) := by decide +kernel
theorem dX0_faresTogether_0 : decode cX0_faresTogether 0 = .ok (.lconst 0, 1) := by decide +kernel
theorem dX0_faresTogether_1 : decode cX0_faresTogether 1 = .ok (.lstore_n 2, 1) := by decide +kernel
theorem dX0_faresTogether_2 : decode cX0_faresTogether 2 = .ok (.iconst 0, 1) := by decide +kernel
theorem dX0_faresTogether_3 : decode cX0_faresTogether 3 = .ok (.istore 4, 2) := by decide +kernel
theorem dX0_faresTogether_5 : decode cX0_faresTogether 5 = .ok (.iload 4, 2) := by decide +kernel
theorem dX0_faresTogether_7 : decode cX0_faresTogether 7 = .ok (.bipush 10, 2) := by decide +kernel
theorem dX0_faresTogether_9 : decode cX0_faresTogether 9 = .ok (.if_icmp .ge 26, 3) := by decide +kernel
theorem dX0_faresTogether_12 : decode cX0_faresTogether 12 = .ok (.lload_n 2, 1) := by decide +kernel
theorem dX0_faresTogether_13 : decode cX0_faresTogether 13 = .ok (.aload_n 0, 1) := by decide +kernel
theorem dX0_faresTogether_14 : decode cX0_faresTogether 14 = .ok (.iload 4, 2) := by decide +kernel
theorem dX0_faresTogether_16 : decode cX0_faresTogether 16 = .ok (.iload_n 1, 1) := by decide +kernel
theorem dX0_faresTogether_17 : decode cX0_faresTogether 17 = .ok (.aload_n 0, 1) := by decide +kernel
theorem dX0_faresTogether_18 : decode cX0_faresTogether 18 = .ok (.getfield 27, 3) := by decide +kernel
theorem dX0_faresTogether_21 : decode cX0_faresTogether 21 = .ok (.iload 4, 2) := by decide +kernel
theorem dX0_faresTogether_23 : decode cX0_faresTogether 23 = .ok (.iaload, 1) := by decide +kernel
theorem dX0_faresTogether_24 : decode cX0_faresTogether 24 = .ok (.invokevirtual 63, 3) := by decide +kernel
theorem dX0_faresTogether_27 : decode cX0_faresTogether 27 = .ok (.ladd, 1) := by decide +kernel
theorem dX0_faresTogether_28 : decode cX0_faresTogether 28 = .ok (.lstore_n 2, 1) := by decide +kernel
theorem dX0_faresTogether_29 : decode cX0_faresTogether 29 = .ok (.iinc 4 1, 3) := by decide +kernel
theorem dX0_faresTogether_32 : decode cX0_faresTogether 32 = .ok (.goto (-27), 3) := by decide +kernel
theorem dX0_faresTogether_35 : decode cX0_faresTogether 35 = .ok (.lload_n 2, 1) := by decide +kernel
theorem dX0_faresTogether_36 : decode cX0_faresTogether 36 = .ok (.l2i, 1) := by decide +kernel
theorem dX0_faresTogether_37 : decode cX0_faresTogether 37 = .ok (.ireturn, 1) := by decide +kernel
theorem dX0_lacked_0 : decode cX0_lacked 0 = .ok (.iconst 0, 1) := by decide +kernel
theorem dX0_lacked_1 : decode cX0_lacked 1 = .ok (.aload_n 0, 1) := by decide +kernel
theorem dX0_lacked_2 : decode cX0_lacked 2 = .ok (.getfield 11, 3) := by decide +kernel
theorem dX0_lacked_5 : decode cX0_lacked 5 = .ok (.iload_n 1, 1) := by decide +kernel
theorem dX0_lacked_6 : decode cX0_lacked 6 = .ok (.aaload, 1) := by decide +kernel
theorem dX0_lacked_7 : decode cX0_lacked 7 = .ok (.iload_n 2, 1) := by decide +kernel
theorem dX0_lacked_8 : decode cX0_lacked 8 = .ok (.iaload, 1) := by decide +kernel
theorem dX0_lacked_9 : decode cX0_lacked 9 = .ok (.aload_n 0, 1) := by decide +kernel
theorem dX0_lacked_10 : decode cX0_lacked 10 = .ok (.getfield 35, 3) := by decide +kernel
theorem dX0_lacked_13 : decode cX0_lacked 13 = .ok (.getfield 39, 3) := by decide +kernel
theorem dX0_lacked_16 : decode cX0_lacked 16 = .ok (.iload_n 2, 1) := by decide +kernel
theorem dX0_lacked_17 : decode cX0_lacked 17 = .ok (.aaload, 1) := by decide +kernel
theorem dX0_lacked_18 : decode cX0_lacked 18 = .ok (.iload_n 1, 1) := by decide +kernel
theorem dX0_lacked_19 : decode cX0_lacked 19 = .ok (.iaload, 1) := by decide +kernel
theorem dX0_lacked_20 : decode cX0_lacked 20 = .ok (.isub, 1) := by decide +kernel
theorem dX0_lacked_21 : decode cX0_lacked 21 = .ok (.invokestatic 44, 3) := by decide +kernel
theorem dX0_lacked_24 : decode cX0_lacked 24 = .ok (.ireturn, 1) := by decide +kernel
theorem dX0_plan_0 : decode cX0_plan 0 = .ok (.aload_n 0, 1) := by decide +kernel
theorem dX0_plan_1 : decode cX0_plan 1 = .ok (.getfield 35, 3) := by decide +kernel
theorem dX0_plan_4 : decode cX0_plan 4 = .ok (.getfield 39, 3) := by decide +kernel
theorem dX0_plan_7 : decode cX0_plan 7 = .ok (.iload_n 1, 1) := by decide +kernel
theorem dX0_plan_8 : decode cX0_plan 8 = .ok (.aaload, 1) := by decide +kernel
theorem dX0_plan_9 : decode cX0_plan 9 = .ok (.iload_n 1, 1) := by decide +kernel
theorem dX0_plan_10 : decode cX0_plan 10 = .ok (.iaload, 1) := by decide +kernel
theorem dX0_plan_11 : decode cX0_plan 11 = .ok (.istore_n 2, 1) := by decide +kernel
theorem dX0_plan_12 : decode cX0_plan 12 = .ok (.bipush 9, 2) := by decide +kernel
theorem dX0_plan_14 : decode cX0_plan 14 = .ok (.istore_n 3, 1) := by decide +kernel
theorem dX0_plan_15 : decode cX0_plan 15 = .ok (.iload_n 3, 1) := by decide +kernel
theorem dX0_plan_16 : decode cX0_plan 16 = .ok (.ifCond .lt 16, 3) := by decide +kernel
theorem dX0_plan_19 : decode cX0_plan 19 = .ok (.aload_n 0, 1) := by decide +kernel
theorem dX0_plan_20 : decode cX0_plan 20 = .ok (.iload_n 3, 1) := by decide +kernel
theorem dX0_plan_21 : decode cX0_plan 21 = .ok (.iload_n 1, 1) := by decide +kernel
theorem dX0_plan_22 : decode cX0_plan 22 = .ok (.iload_n 2, 1) := by decide +kernel
theorem dX0_plan_23 : decode cX0_plan 23 = .ok (.invokevirtual 50, 3) := by decide +kernel
theorem dX0_plan_26 : decode cX0_plan 26 = .ok (.iinc 3 (-1), 3) := by decide +kernel
theorem dX0_plan_29 : decode cX0_plan 29 = .ok (.goto (-14), 3) := by decide +kernel
theorem dX0_plan_32 : decode cX0_plan 32 = .ok (.iconst 0, 1) := by decide +kernel
theorem dX0_plan_33 : decode cX0_plan 33 = .ok (.istore_n 3, 1) := by decide +kernel
theorem dX0_plan_34 : decode cX0_plan 34 = .ok (.iload_n 3, 1) := by decide +kernel
theorem dX0_plan_35 : decode cX0_plan 35 = .ok (.bipush 10, 2) := by decide +kernel
theorem dX0_plan_37 : decode cX0_plan 37 = .ok (.if_icmp .ge 32, 3) := by decide +kernel
theorem dX0_plan_40 : decode cX0_plan 40 = .ok (.aload_n 0, 1) := by decide +kernel
theorem dX0_plan_41 : decode cX0_plan 41 = .ok (.getfield 27, 3) := by decide +kernel
theorem dX0_plan_44 : decode cX0_plan 44 = .ok (.iload_n 3, 1) := by decide +kernel
theorem dX0_plan_45 : decode cX0_plan 45 = .ok (.aload_n 0, 1) := by decide +kernel
theorem dX0_plan_46 : decode cX0_plan 46 = .ok (.getfield 24, 3) := by decide +kernel
theorem dX0_plan_49 : decode cX0_plan 49 = .ok (.iload_n 3, 1) := by decide +kernel
theorem dX0_plan_50 : decode cX0_plan 50 = .ok (.aaload, 1) := by decide +kernel
theorem dX0_plan_51 : decode cX0_plan 51 = .ok (.iload_n 2, 1) := by decide +kernel
theorem dX0_plan_52 : decode cX0_plan 52 = .ok (.iaload, 1) := by decide +kernel
theorem dX0_plan_53 : decode cX0_plan 53 = .ok (.iastore, 1) := by decide +kernel
theorem dX0_plan_54 : decode cX0_plan 54 = .ok (.iload_n 2, 1) := by decide +kernel
theorem dX0_plan_55 : decode cX0_plan 55 = .ok (.aload_n 0, 1) := by decide +kernel
theorem dX0_plan_56 : decode cX0_plan 56 = .ok (.getfield 27, 3) := by decide +kernel
theorem dX0_plan_59 : decode cX0_plan 59 = .ok (.iload_n 3, 1) := by decide +kernel
theorem dX0_plan_60 : decode cX0_plan 60 = .ok (.iaload, 1) := by decide +kernel
theorem dX0_plan_61 : decode cX0_plan 61 = .ok (.isub, 1) := by decide +kernel
theorem dX0_plan_62 : decode cX0_plan 62 = .ok (.istore_n 2, 1) := by decide +kernel
theorem dX0_plan_63 : decode cX0_plan 63 = .ok (.iinc 3 1, 3) := by decide +kernel
theorem dX0_plan_66 : decode cX0_plan 66 = .ok (.goto (-32), 3) := by decide +kernel
theorem dX0_plan_69 : decode cX0_plan 69 = .ok (.return_, 1) := by decide +kernel
theorem dX0_weighTown_0 : decode cX0_weighTown 0 = .ok (.aload_n 0, 1) := by decide +kernel
theorem dX0_weighTown_1 : decode cX0_weighTown 1 = .ok (.iload_n 1, 1) := by decide +kernel
theorem dX0_weighTown_2 : decode cX0_weighTown 2 = .ok (.iload_n 2, 1) := by decide +kernel
theorem dX0_weighTown_3 : decode cX0_weighTown 3 = .ok (.invokevirtual 54, 3) := by decide +kernel
theorem dX0_weighTown_6 : decode cX0_weighTown 6 = .ok (.istore 4, 2) := by decide +kernel
theorem dX0_weighTown_8 : decode cX0_weighTown 8 = .ok (.iconst 0, 1) := by decide +kernel
theorem dX0_weighTown_9 : decode cX0_weighTown 9 = .ok (.istore 5, 2) := by decide +kernel
theorem dX0_weighTown_11 : decode cX0_weighTown 11 = .ok (.iload 5, 2) := by decide +kernel
theorem dX0_weighTown_13 : decode cX0_weighTown 13 = .ok (.iload_n 3, 1) := by decide +kernel
theorem dX0_weighTown_14 : decode cX0_weighTown 14 = .ok (.if_icmp .gt 137, 3) := by decide +kernel
theorem dX0_weighTown_17 : decode cX0_weighTown 17 = .ok (.aload_n 0, 1) := by decide +kernel
theorem dX0_weighTown_18 : decode cX0_weighTown 18 = .ok (.getfield 24, 3) := by decide +kernel
theorem dX0_weighTown_21 : decode cX0_weighTown 21 = .ok (.iload_n 1, 1) := by decide +kernel
theorem dX0_weighTown_22 : decode cX0_weighTown 22 = .ok (.aaload, 1) := by decide +kernel
theorem dX0_weighTown_23 : decode cX0_weighTown 23 = .ok (.iload 5, 2) := by decide +kernel
theorem dX0_weighTown_25 : decode cX0_weighTown 25 = .ok (.iconst 0, 1) := by decide +kernel
theorem dX0_weighTown_26 : decode cX0_weighTown 26 = .ok (.iastore, 1) := by decide +kernel
theorem dX0_weighTown_27 : decode cX0_weighTown 27 = .ok (.aload_n 0, 1) := by decide +kernel
theorem dX0_weighTown_28 : decode cX0_weighTown 28 = .ok (.getfield 21, 3) := by decide +kernel
theorem dX0_weighTown_31 : decode cX0_weighTown 31 = .ok (.iload_n 1, 1) := by decide +kernel
theorem dX0_weighTown_32 : decode cX0_weighTown 32 = .ok (.aaload, 1) := by decide +kernel
theorem dX0_weighTown_33 : decode cX0_weighTown 33 = .ok (.iload 5, 2) := by decide +kernel
theorem dX0_weighTown_35 : decode cX0_weighTown 35 = .ok (.aload_n 0, 1) := by decide +kernel
theorem dX0_weighTown_36 : decode cX0_weighTown 36 = .ok (.getfield 21, 3) := by decide +kernel
theorem dX0_weighTown_39 : decode cX0_weighTown 39 = .ok (.iload_n 1, 1) := by decide +kernel
theorem dX0_weighTown_40 : decode cX0_weighTown 40 = .ok (.iconst 1, 1) := by decide +kernel
theorem dX0_weighTown_41 : decode cX0_weighTown 41 = .ok (.iadd, 1) := by decide +kernel
theorem dX0_weighTown_42 : decode cX0_weighTown 42 = .ok (.aaload, 1) := by decide +kernel
theorem dX0_weighTown_43 : decode cX0_weighTown 43 = .ok (.iload 5, 2) := by decide +kernel
theorem dX0_weighTown_45 : decode cX0_weighTown 45 = .ok (.laload, 1) := by decide +kernel
theorem dX0_weighTown_46 : decode cX0_weighTown 46 = .ok (.lastore, 1) := by decide +kernel
theorem dX0_weighTown_47 : decode cX0_weighTown 47 = .ok (.iconst 1, 1) := by decide +kernel
theorem dX0_weighTown_48 : decode cX0_weighTown 48 = .ok (.istore 6, 2) := by decide +kernel
theorem dX0_weighTown_50 : decode cX0_weighTown 50 = .ok (.iload 6, 2) := by decide +kernel
theorem dX0_weighTown_52 : decode cX0_weighTown 52 = .ok (.iload 4, 2) := by decide +kernel
theorem dX0_weighTown_54 : decode cX0_weighTown 54 = .ok (.if_icmp .gt 91, 3) := by decide +kernel
theorem dX0_weighTown_57 : decode cX0_weighTown 57 = .ok (.iload 6, 2) := by decide +kernel
theorem dX0_weighTown_59 : decode cX0_weighTown 59 = .ok (.iload 5, 2) := by decide +kernel
theorem dX0_weighTown_61 : decode cX0_weighTown 61 = .ok (.if_icmp .gt 84, 3) := by decide +kernel
theorem dX0_weighTown_64 : decode cX0_weighTown 64 = .ok (.aload_n 0, 1) := by decide +kernel
theorem dX0_weighTown_65 : decode cX0_weighTown 65 = .ok (.iload_n 1, 1) := by decide +kernel
theorem dX0_weighTown_66 : decode cX0_weighTown 66 = .ok (.iload_n 2, 1) := by decide +kernel
theorem dX0_weighTown_67 : decode cX0_weighTown 67 = .ok (.iload 6, 2) := by decide +kernel
theorem dX0_weighTown_69 : decode cX0_weighTown 69 = .ok (.invokevirtual 57, 3) := by decide +kernel
theorem dX0_weighTown_72 : decode cX0_weighTown 72 = .ok (.ldc2_w 61, 3) := by decide +kernel
theorem dX0_weighTown_75 : decode cX0_weighTown 75 = .ok (.lmul, 1) := by decide +kernel
theorem dX0_weighTown_76 : decode cX0_weighTown 76 = .ok (.aload_n 0, 1) := by decide +kernel
theorem dX0_weighTown_77 : decode cX0_weighTown 77 = .ok (.iload_n 1, 1) := by decide +kernel
theorem dX0_weighTown_78 : decode cX0_weighTown 78 = .ok (.iload_n 2, 1) := by decide +kernel
theorem dX0_weighTown_79 : decode cX0_weighTown 79 = .ok (.iload 6, 2) := by decide +kernel
theorem dX0_weighTown_81 : decode cX0_weighTown 81 = .ok (.invokevirtual 63, 3) := by decide +kernel
theorem dX0_weighTown_84 : decode cX0_weighTown 84 = .ok (.lsub, 1) := by decide +kernel
theorem dX0_weighTown_85 : decode cX0_weighTown 85 = .ok (.aload_n 0, 1) := by decide +kernel
theorem dX0_weighTown_86 : decode cX0_weighTown 86 = .ok (.getfield 21, 3) := by decide +kernel
theorem dX0_weighTown_89 : decode cX0_weighTown 89 = .ok (.iload_n 1, 1) := by decide +kernel
theorem dX0_weighTown_90 : decode cX0_weighTown 90 = .ok (.iconst 1, 1) := by decide +kernel
theorem dX0_weighTown_91 : decode cX0_weighTown 91 = .ok (.iadd, 1) := by decide +kernel
theorem dX0_weighTown_92 : decode cX0_weighTown 92 = .ok (.aaload, 1) := by decide +kernel
theorem dX0_weighTown_93 : decode cX0_weighTown 93 = .ok (.iload 5, 2) := by decide +kernel
theorem dX0_weighTown_95 : decode cX0_weighTown 95 = .ok (.iload 6, 2) := by decide +kernel
theorem dX0_weighTown_97 : decode cX0_weighTown 97 = .ok (.isub, 1) := by decide +kernel
theorem dX0_weighTown_98 : decode cX0_weighTown 98 = .ok (.laload, 1) := by decide +kernel
theorem dX0_weighTown_99 : decode cX0_weighTown 99 = .ok (.ladd, 1) := by decide +kernel
theorem dX0_weighTown_100 : decode cX0_weighTown 100 = .ok (.lstore 7, 2) := by decide +kernel
theorem dX0_weighTown_102 : decode cX0_weighTown 102 = .ok (.lload 7, 2) := by decide +kernel
theorem dX0_weighTown_104 : decode cX0_weighTown 104 = .ok (.aload_n 0, 1) := by decide +kernel
theorem dX0_weighTown_105 : decode cX0_weighTown 105 = .ok (.getfield 21, 3) := by decide +kernel
theorem dX0_weighTown_108 : decode cX0_weighTown 108 = .ok (.iload_n 1, 1) := by decide +kernel
theorem dX0_weighTown_109 : decode cX0_weighTown 109 = .ok (.aaload, 1) := by decide +kernel
theorem dX0_weighTown_110 : decode cX0_weighTown 110 = .ok (.iload 5, 2) := by decide +kernel
theorem dX0_weighTown_112 : decode cX0_weighTown 112 = .ok (.laload, 1) := by decide +kernel
theorem dX0_weighTown_113 : decode cX0_weighTown 113 = .ok (.lcmp, 1) := by decide +kernel
theorem dX0_weighTown_114 : decode cX0_weighTown 114 = .ok (.ifCond .lt 25, 3) := by decide +kernel
theorem dX0_weighTown_117 : decode cX0_weighTown 117 = .ok (.aload_n 0, 1) := by decide +kernel
theorem dX0_weighTown_118 : decode cX0_weighTown 118 = .ok (.getfield 24, 3) := by decide +kernel
theorem dX0_weighTown_121 : decode cX0_weighTown 121 = .ok (.iload_n 1, 1) := by decide +kernel
theorem dX0_weighTown_122 : decode cX0_weighTown 122 = .ok (.aaload, 1) := by decide +kernel
theorem dX0_weighTown_123 : decode cX0_weighTown 123 = .ok (.iload 5, 2) := by decide +kernel
theorem dX0_weighTown_125 : decode cX0_weighTown 125 = .ok (.iload 6, 2) := by decide +kernel
theorem dX0_weighTown_127 : decode cX0_weighTown 127 = .ok (.iastore, 1) := by decide +kernel
theorem dX0_weighTown_128 : decode cX0_weighTown 128 = .ok (.aload_n 0, 1) := by decide +kernel
theorem dX0_weighTown_129 : decode cX0_weighTown 129 = .ok (.getfield 21, 3) := by decide +kernel
theorem dX0_weighTown_132 : decode cX0_weighTown 132 = .ok (.iload_n 1, 1) := by decide +kernel
theorem dX0_weighTown_133 : decode cX0_weighTown 133 = .ok (.aaload, 1) := by decide +kernel
theorem dX0_weighTown_134 : decode cX0_weighTown 134 = .ok (.iload 5, 2) := by decide +kernel
theorem dX0_weighTown_136 : decode cX0_weighTown 136 = .ok (.lload 7, 2) := by decide +kernel
theorem dX0_weighTown_138 : decode cX0_weighTown 138 = .ok (.lastore, 1) := by decide +kernel
theorem dX0_weighTown_139 : decode cX0_weighTown 139 = .ok (.iinc 6 1, 3) := by decide +kernel
theorem dX0_weighTown_142 : decode cX0_weighTown 142 = .ok (.goto (-92), 3) := by decide +kernel
theorem dX0_weighTown_145 : decode cX0_weighTown 145 = .ok (.iinc 5 1, 3) := by decide +kernel
theorem dX0_weighTown_148 : decode cX0_weighTown 148 = .ok (.goto (-137), 3) := by decide +kernel
theorem dX0_weighTown_151 : decode cX0_weighTown 151 = .ok (.return_, 1) := by decide +kernel
theorem dX0_worthOf_0 : decode cX0_worthOf 0 = .ok (.iload_n 3, 1) := by decide +kernel
theorem dX0_worthOf_1 : decode cX0_worthOf 1 = .ok (.i2l, 1) := by decide +kernel
theorem dX0_worthOf_2 : decode cX0_worthOf 2 = .ok (.aload_n 0, 1) := by decide +kernel
theorem dX0_worthOf_3 : decode cX0_worthOf 3 = .ok (.getfield 16, 3) := by decide +kernel
theorem dX0_worthOf_6 : decode cX0_worthOf 6 = .ok (.iload_n 1, 1) := by decide +kernel
theorem dX0_worthOf_7 : decode cX0_worthOf 7 = .ok (.aaload, 1) := by decide +kernel
theorem dX0_worthOf_8 : decode cX0_worthOf 8 = .ok (.iload_n 2, 1) := by decide +kernel
theorem dX0_worthOf_9 : decode cX0_worthOf 9 = .ok (.iaload, 1) := by decide +kernel
theorem dX0_worthOf_10 : decode cX0_worthOf 10 = .ok (.i2l, 1) := by decide +kernel
theorem dX0_worthOf_11 : decode cX0_worthOf 11 = .ok (.lmul, 1) := by decide +kernel
theorem dX0_worthOf_12 : decode cX0_worthOf 12 = .ok (.lreturn, 1) := by decide +kernel
theorem dX0_worthTogether_0 : decode cX0_worthTogether 0 = .ok (.lconst 0, 1) := by decide +kernel
theorem dX0_worthTogether_1 : decode cX0_worthTogether 1 = .ok (.lstore_n 2, 1) := by decide +kernel
theorem dX0_worthTogether_2 : decode cX0_worthTogether 2 = .ok (.iconst 0, 1) := by decide +kernel
theorem dX0_worthTogether_3 : decode cX0_worthTogether 3 = .ok (.istore 4, 2) := by decide +kernel
theorem dX0_worthTogether_5 : decode cX0_worthTogether 5 = .ok (.iload 4, 2) := by decide +kernel
theorem dX0_worthTogether_7 : decode cX0_worthTogether 7 = .ok (.bipush 10, 2) := by decide +kernel
theorem dX0_worthTogether_9 : decode cX0_worthTogether 9 = .ok (.if_icmp .ge 26, 3) := by decide +kernel
theorem dX0_worthTogether_12 : decode cX0_worthTogether 12 = .ok (.lload_n 2, 1) := by decide +kernel
theorem dX0_worthTogether_13 : decode cX0_worthTogether 13 = .ok (.aload_n 0, 1) := by decide +kernel
theorem dX0_worthTogether_14 : decode cX0_worthTogether 14 = .ok (.iload 4, 2) := by decide +kernel
theorem dX0_worthTogether_16 : decode cX0_worthTogether 16 = .ok (.iload_n 1, 1) := by decide +kernel
theorem dX0_worthTogether_17 : decode cX0_worthTogether 17 = .ok (.aload_n 0, 1) := by decide +kernel
theorem dX0_worthTogether_18 : decode cX0_worthTogether 18 = .ok (.getfield 27, 3) := by decide +kernel
theorem dX0_worthTogether_21 : decode cX0_worthTogether 21 = .ok (.iload 4, 2) := by decide +kernel
theorem dX0_worthTogether_23 : decode cX0_worthTogether 23 = .ok (.iaload, 1) := by decide +kernel
theorem dX0_worthTogether_24 : decode cX0_worthTogether 24 = .ok (.invokevirtual 57, 3) := by decide +kernel
theorem dX0_worthTogether_27 : decode cX0_worthTogether 27 = .ok (.ladd, 1) := by decide +kernel
theorem dX0_worthTogether_28 : decode cX0_worthTogether 28 = .ok (.lstore_n 2, 1) := by decide +kernel
theorem dX0_worthTogether_29 : decode cX0_worthTogether 29 = .ok (.iinc 4 1, 3) := by decide +kernel
theorem dX0_worthTogether_32 : decode cX0_worthTogether 32 = .ok (.goto (-27), 3) := by decide +kernel
theorem dX0_worthTogether_35 : decode cX0_worthTogether 35 = .ok (.lload_n 2, 1) := by decide +kernel
theorem dX0_worthTogether_36 : decode cX0_worthTogether 36 = .ok (.l2i, 1) := by decide +kernel
theorem dX0_worthTogether_37 : decode cX0_worthTogether 37 = .ok (.ireturn, 1) := by decide +kernel
theorem dX1_add_0 : decode cX1_add 0 = .ok (.aload_n 0, 1) := by decide +kernel
theorem dX1_add_1 : decode cX1_add 1 = .ok (.getfield 9, 3) := by decide +kernel
theorem dX1_add_4 : decode cX1_add 4 = .ok (.istore_n 2, 1) := by decide +kernel
theorem dX1_add_5 : decode cX1_add 5 = .ok (.aload_n 0, 1) := by decide +kernel
theorem dX1_add_6 : decode cX1_add 6 = .ok (.dup, 1) := by decide +kernel
theorem dX1_add_7 : decode cX1_add 7 = .ok (.getfield 9, 3) := by decide +kernel
theorem dX1_add_10 : decode cX1_add 10 = .ok (.iconst 1, 1) := by decide +kernel
theorem dX1_add_11 : decode cX1_add 11 = .ok (.iadd, 1) := by decide +kernel
theorem dX1_add_12 : decode cX1_add 12 = .ok (.putfield 9, 3) := by decide +kernel
theorem dX1_add_15 : decode cX1_add 15 = .ok (.aload_n 0, 1) := by decide +kernel
theorem dX1_add_16 : decode cX1_add 16 = .ok (.getfield 15, 3) := by decide +kernel
theorem dX1_add_19 : decode cX1_add 19 = .ok (.iload_n 2, 1) := by decide +kernel
theorem dX1_add_20 : decode cX1_add 20 = .ok (.iload_n 1, 1) := by decide +kernel
theorem dX1_add_21 : decode cX1_add 21 = .ok (.iastore, 1) := by decide +kernel
theorem dX1_add_22 : decode cX1_add 22 = .ok (.aload_n 0, 1) := by decide +kernel
theorem dX1_add_23 : decode cX1_add 23 = .ok (.getfield 28, 3) := by decide +kernel
theorem dX1_add_26 : decode cX1_add 26 = .ok (.iload_n 2, 1) := by decide +kernel
theorem dX1_add_27 : decode cX1_add 27 = .ok (.iconst (-1), 1) := by decide +kernel
theorem dX1_add_28 : decode cX1_add 28 = .ok (.iastore, 1) := by decide +kernel
theorem dX1_add_29 : decode cX1_add 29 = .ok (.aload_n 0, 1) := by decide +kernel
theorem dX1_add_30 : decode cX1_add 30 = .ok (.iload_n 2, 1) := by decide +kernel
theorem dX1_add_31 : decode cX1_add 31 = .ok (.iload_n 1, 1) := by decide +kernel
theorem dX1_add_32 : decode cX1_add 32 = .ok (.invokevirtual 36, 3) := by decide +kernel
theorem dX1_add_35 : decode cX1_add 35 = .ok (.iload_n 2, 1) := by decide +kernel
theorem dX1_add_36 : decode cX1_add 36 = .ok (.ireturn, 1) := by decide +kernel
theorem dX1_answer_0 : decode cX1_answer 0 = .ok (.iload_n 2, 1) := by decide +kernel
theorem dX1_answer_1 : decode cX1_answer 1 = .ok (.tableswitch 59 0 3 #[31, 38, 45, 52], 31) := by decide +kernel
theorem dX1_answer_32 : decode cX1_answer 32 = .ok (.aload_n 0, 1) := by decide +kernel
theorem dX1_answer_33 : decode cX1_answer 33 = .ok (.getfield 15, 3) := by decide +kernel
theorem dX1_answer_36 : decode cX1_answer 36 = .ok (.iload_n 1, 1) := by decide +kernel
theorem dX1_answer_37 : decode cX1_answer 37 = .ok (.iaload, 1) := by decide +kernel
theorem dX1_answer_38 : decode cX1_answer 38 = .ok (.ireturn, 1) := by decide +kernel
theorem dX1_answer_39 : decode cX1_answer 39 = .ok (.aload_n 0, 1) := by decide +kernel
theorem dX1_answer_40 : decode cX1_answer 40 = .ok (.getfield 19, 3) := by decide +kernel
theorem dX1_answer_43 : decode cX1_answer 43 = .ok (.iload_n 1, 1) := by decide +kernel
theorem dX1_answer_44 : decode cX1_answer 44 = .ok (.iaload, 1) := by decide +kernel
theorem dX1_answer_45 : decode cX1_answer 45 = .ok (.ireturn, 1) := by decide +kernel
theorem dX1_answer_46 : decode cX1_answer 46 = .ok (.aload_n 0, 1) := by decide +kernel
theorem dX1_answer_47 : decode cX1_answer 47 = .ok (.getfield 22, 3) := by decide +kernel
theorem dX1_answer_50 : decode cX1_answer 50 = .ok (.iload_n 1, 1) := by decide +kernel
theorem dX1_answer_51 : decode cX1_answer 51 = .ok (.iaload, 1) := by decide +kernel
theorem dX1_answer_52 : decode cX1_answer 52 = .ok (.ireturn, 1) := by decide +kernel
theorem dX1_answer_53 : decode cX1_answer 53 = .ok (.aload_n 0, 1) := by decide +kernel
theorem dX1_answer_54 : decode cX1_answer 54 = .ok (.getfield 25, 3) := by decide +kernel
theorem dX1_answer_57 : decode cX1_answer 57 = .ok (.iload_n 1, 1) := by decide +kernel
theorem dX1_answer_58 : decode cX1_answer 58 = .ok (.iaload, 1) := by decide +kernel
theorem dX1_answer_59 : decode cX1_answer 59 = .ok (.ireturn, 1) := by decide +kernel
theorem dX1_answer_60 : decode cX1_answer 60 = .ok (.aload_n 0, 1) := by decide +kernel
theorem dX1_answer_61 : decode cX1_answer 61 = .ok (.getfield 28, 3) := by decide +kernel
theorem dX1_answer_64 : decode cX1_answer 64 = .ok (.iload_n 1, 1) := by decide +kernel
theorem dX1_answer_65 : decode cX1_answer 65 = .ok (.iaload, 1) := by decide +kernel
theorem dX1_answer_66 : decode cX1_answer 66 = .ok (.ireturn, 1) := by decide +kernel
theorem dX1_canFlyOff_0 : decode cX1_canFlyOff 0 = .ok (.aload_n 0, 1) := by decide +kernel
theorem dX1_canFlyOff_1 : decode cX1_canFlyOff 1 = .ok (.getfield 22, 3) := by decide +kernel
theorem dX1_canFlyOff_4 : decode cX1_canFlyOff 4 = .ok (.iload_n 1, 1) := by decide +kernel
theorem dX1_canFlyOff_5 : decode cX1_canFlyOff 5 = .ok (.iaload, 1) := by decide +kernel
theorem dX1_canFlyOff_6 : decode cX1_canFlyOff 6 = .ok (.ifCond .ne 32, 3) := by decide +kernel
theorem dX1_canFlyOff_9 : decode cX1_canFlyOff 9 = .ok (.iload_n 2, 1) := by decide +kernel
theorem dX1_canFlyOff_10 : decode cX1_canFlyOff 10 = .ok (.aload_n 0, 1) := by decide +kernel
theorem dX1_canFlyOff_11 : decode cX1_canFlyOff 11 = .ok (.getfield 25, 3) := by decide +kernel
theorem dX1_canFlyOff_14 : decode cX1_canFlyOff 14 = .ok (.iload_n 1, 1) := by decide +kernel
theorem dX1_canFlyOff_15 : decode cX1_canFlyOff 15 = .ok (.iaload, 1) := by decide +kernel
theorem dX1_canFlyOff_16 : decode cX1_canFlyOff 16 = .ok (.if_icmp .lt 22, 3) := by decide +kernel
theorem dX1_canFlyOff_19 : decode cX1_canFlyOff 19 = .ok (.aload_n 0, 1) := by decide +kernel
theorem dX1_canFlyOff_20 : decode cX1_canFlyOff 20 = .ok (.getfield 19, 3) := by decide +kernel
theorem dX1_canFlyOff_23 : decode cX1_canFlyOff 23 = .ok (.iload_n 1, 1) := by decide +kernel
theorem dX1_canFlyOff_24 : decode cX1_canFlyOff 24 = .ok (.iaload, 1) := by decide +kernel
theorem dX1_canFlyOff_25 : decode cX1_canFlyOff 25 = .ok (.aload_n 0, 1) := by decide +kernel
theorem dX1_canFlyOff_26 : decode cX1_canFlyOff 26 = .ok (.getfield 15, 3) := by decide +kernel
theorem dX1_canFlyOff_29 : decode cX1_canFlyOff 29 = .ok (.iload_n 1, 1) := by decide +kernel
theorem dX1_canFlyOff_30 : decode cX1_canFlyOff 30 = .ok (.iaload, 1) := by decide +kernel
theorem dX1_canFlyOff_31 : decode cX1_canFlyOff 31 = .ok (.if_icmp .eq 7, 3) := by decide +kernel
theorem dX1_canFlyOff_34 : decode cX1_canFlyOff 34 = .ok (.iconst 1, 1) := by decide +kernel
theorem dX1_canFlyOff_35 : decode cX1_canFlyOff 35 = .ok (.goto 4, 3) := by decide +kernel
theorem dX1_canFlyOff_38 : decode cX1_canFlyOff 38 = .ok (.iconst 0, 1) := by decide +kernel
theorem dX1_canFlyOff_39 : decode cX1_canFlyOff 39 = .ok (.ireturn, 1) := by decide +kernel
theorem dX1_comeHome_0 : decode cX1_comeHome 0 = .ok (.aload_n 0, 1) := by decide +kernel
theorem dX1_comeHome_1 : decode cX1_comeHome 1 = .ok (.getfield 28, 3) := by decide +kernel
theorem dX1_comeHome_4 : decode cX1_comeHome 4 = .ok (.iload_n 1, 1) := by decide +kernel
theorem dX1_comeHome_5 : decode cX1_comeHome 5 = .ok (.iconst (-1), 1) := by decide +kernel
theorem dX1_comeHome_6 : decode cX1_comeHome 6 = .ok (.iastore, 1) := by decide +kernel
theorem dX1_comeHome_7 : decode cX1_comeHome 7 = .ok (.aload_n 0, 1) := by decide +kernel
theorem dX1_comeHome_8 : decode cX1_comeHome 8 = .ok (.getfield 25, 3) := by decide +kernel
theorem dX1_comeHome_11 : decode cX1_comeHome 11 = .ok (.iload_n 1, 1) := by decide +kernel
theorem dX1_comeHome_12 : decode cX1_comeHome 12 = .ok (.iload_n 2, 1) := by decide +kernel
theorem dX1_comeHome_13 : decode cX1_comeHome 13 = .ok (.bipush 60, 2) := by decide +kernel
theorem dX1_comeHome_15 : decode cX1_comeHome 15 = .ok (.iadd, 1) := by decide +kernel
theorem dX1_comeHome_16 : decode cX1_comeHome 16 = .ok (.iastore, 1) := by decide +kernel
theorem dX1_comeHome_17 : decode cX1_comeHome 17 = .ok (.aload_n 0, 1) := by decide +kernel
theorem dX1_comeHome_18 : decode cX1_comeHome 18 = .ok (.iload_n 1, 1) := by decide +kernel
theorem dX1_comeHome_19 : decode cX1_comeHome 19 = .ok (.aload_n 0, 1) := by decide +kernel
theorem dX1_comeHome_20 : decode cX1_comeHome 20 = .ok (.getfield 15, 3) := by decide +kernel
theorem dX1_comeHome_23 : decode cX1_comeHome 23 = .ok (.iload_n 1, 1) := by decide +kernel
theorem dX1_comeHome_24 : decode cX1_comeHome 24 = .ok (.iaload, 1) := by decide +kernel
theorem dX1_comeHome_25 : decode cX1_comeHome 25 = .ok (.invokevirtual 36, 3) := by decide +kernel
theorem dX1_comeHome_28 : decode cX1_comeHome 28 = .ok (.return_, 1) := by decide +kernel
theorem dX1_flyOff_0 : decode cX1_flyOff 0 = .ok (.aload_n 0, 1) := by decide +kernel
theorem dX1_flyOff_1 : decode cX1_flyOff 1 = .ok (.iload_n 1, 1) := by decide +kernel
theorem dX1_flyOff_2 : decode cX1_flyOff 2 = .ok (.invokevirtual 40, 3) := by decide +kernel
theorem dX1_flyOff_5 : decode cX1_flyOff 5 = .ok (.aload_n 0, 1) := by decide +kernel
theorem dX1_flyOff_6 : decode cX1_flyOff 6 = .ok (.getfield 22, 3) := by decide +kernel
theorem dX1_flyOff_9 : decode cX1_flyOff 9 = .ok (.iload_n 1, 1) := by decide +kernel
theorem dX1_flyOff_10 : decode cX1_flyOff 10 = .ok (.iconst 1, 1) := by decide +kernel
theorem dX1_flyOff_11 : decode cX1_flyOff 11 = .ok (.iastore, 1) := by decide +kernel
theorem dX1_flyOff_12 : decode cX1_flyOff 12 = .ok (.aload_n 0, 1) := by decide +kernel
theorem dX1_flyOff_13 : decode cX1_flyOff 13 = .ok (.getfield 28, 3) := by decide +kernel
theorem dX1_flyOff_16 : decode cX1_flyOff 16 = .ok (.iload_n 1, 1) := by decide +kernel
theorem dX1_flyOff_17 : decode cX1_flyOff 17 = .ok (.iload_n 2, 1) := by decide +kernel
theorem dX1_flyOff_18 : decode cX1_flyOff 18 = .ok (.iastore, 1) := by decide +kernel
theorem dX1_flyOff_19 : decode cX1_flyOff 19 = .ok (.return_, 1) := by decide +kernel
theorem dX1_getLost_0 : decode cX1_getLost 0 = .ok (.aload_n 0, 1) := by decide +kernel
theorem dX1_getLost_1 : decode cX1_getLost 1 = .ok (.getfield 28, 3) := by decide +kernel
theorem dX1_getLost_4 : decode cX1_getLost 4 = .ok (.iload_n 1, 1) := by decide +kernel
theorem dX1_getLost_5 : decode cX1_getLost 5 = .ok (.iconst (-1), 1) := by decide +kernel
theorem dX1_getLost_6 : decode cX1_getLost 6 = .ok (.iastore, 1) := by decide +kernel
theorem dX1_getLost_7 : decode cX1_getLost 7 = .ok (.aload_n 0, 1) := by decide +kernel
theorem dX1_getLost_8 : decode cX1_getLost 8 = .ok (.getfield 22, 3) := by decide +kernel
theorem dX1_getLost_11 : decode cX1_getLost 11 = .ok (.iload_n 1, 1) := by decide +kernel
theorem dX1_getLost_12 : decode cX1_getLost 12 = .ok (.iconst 2, 1) := by decide +kernel
theorem dX1_getLost_13 : decode cX1_getLost 13 = .ok (.iastore, 1) := by decide +kernel
theorem dX1_getLost_14 : decode cX1_getLost 14 = .ok (.return_, 1) := by decide +kernel
theorem dX1_leave_0 : decode cX1_leave 0 = .ok (.aload_n 0, 1) := by decide +kernel
theorem dX1_leave_1 : decode cX1_leave 1 = .ok (.getfield 33, 3) := by decide +kernel
theorem dX1_leave_4 : decode cX1_leave 4 = .ok (.aload_n 0, 1) := by decide +kernel
theorem dX1_leave_5 : decode cX1_leave 5 = .ok (.getfield 15, 3) := by decide +kernel
theorem dX1_leave_8 : decode cX1_leave 8 = .ok (.iload_n 1, 1) := by decide +kernel
theorem dX1_leave_9 : decode cX1_leave 9 = .ok (.iaload, 1) := by decide +kernel
theorem dX1_leave_10 : decode cX1_leave 10 = .ok (.aaload, 1) := by decide +kernel
theorem dX1_leave_11 : decode cX1_leave 11 = .ok (.aload_n 0, 1) := by decide +kernel
theorem dX1_leave_12 : decode cX1_leave 12 = .ok (.getfield 19, 3) := by decide +kernel
theorem dX1_leave_15 : decode cX1_leave 15 = .ok (.iload_n 1, 1) := by decide +kernel
theorem dX1_leave_16 : decode cX1_leave 16 = .ok (.iaload, 1) := by decide +kernel
theorem dX1_leave_17 : decode cX1_leave 17 = .ok (.dup2, 1) := by decide +kernel
theorem dX1_leave_18 : decode cX1_leave 18 = .ok (.iaload, 1) := by decide +kernel
theorem dX1_leave_19 : decode cX1_leave 19 = .ok (.iconst 1, 1) := by decide +kernel
theorem dX1_leave_20 : decode cX1_leave 20 = .ok (.isub, 1) := by decide +kernel
theorem dX1_leave_21 : decode cX1_leave 21 = .ok (.iastore, 1) := by decide +kernel
theorem dX1_leave_22 : decode cX1_leave 22 = .ok (.aload_n 0, 1) := by decide +kernel
theorem dX1_leave_23 : decode cX1_leave 23 = .ok (.getfield 19, 3) := by decide +kernel
theorem dX1_leave_26 : decode cX1_leave 26 = .ok (.iload_n 1, 1) := by decide +kernel
theorem dX1_leave_27 : decode cX1_leave 27 = .ok (.iconst (-1), 1) := by decide +kernel
theorem dX1_leave_28 : decode cX1_leave 28 = .ok (.iastore, 1) := by decide +kernel
theorem dX1_leave_29 : decode cX1_leave 29 = .ok (.return_, 1) := by decide +kernel
theorem dX1_settle_0 : decode cX1_settle 0 = .ok (.aload_n 0, 1) := by decide +kernel
theorem dX1_settle_1 : decode cX1_settle 1 = .ok (.getfield 22, 3) := by decide +kernel
theorem dX1_settle_4 : decode cX1_settle 4 = .ok (.iload_n 1, 1) := by decide +kernel
theorem dX1_settle_5 : decode cX1_settle 5 = .ok (.iconst 0, 1) := by decide +kernel
theorem dX1_settle_6 : decode cX1_settle 6 = .ok (.iastore, 1) := by decide +kernel
theorem dX1_settle_7 : decode cX1_settle 7 = .ok (.aload_n 0, 1) := by decide +kernel
theorem dX1_settle_8 : decode cX1_settle 8 = .ok (.getfield 19, 3) := by decide +kernel
theorem dX1_settle_11 : decode cX1_settle 11 = .ok (.iload_n 1, 1) := by decide +kernel
theorem dX1_settle_12 : decode cX1_settle 12 = .ok (.iload_n 2, 1) := by decide +kernel
theorem dX1_settle_13 : decode cX1_settle 13 = .ok (.iastore, 1) := by decide +kernel
theorem dX1_settle_14 : decode cX1_settle 14 = .ok (.aload_n 0, 1) := by decide +kernel
theorem dX1_settle_15 : decode cX1_settle 15 = .ok (.getfield 33, 3) := by decide +kernel
theorem dX1_settle_18 : decode cX1_settle 18 = .ok (.aload_n 0, 1) := by decide +kernel
theorem dX1_settle_19 : decode cX1_settle 19 = .ok (.getfield 15, 3) := by decide +kernel
theorem dX1_settle_22 : decode cX1_settle 22 = .ok (.iload_n 1, 1) := by decide +kernel
theorem dX1_settle_23 : decode cX1_settle 23 = .ok (.iaload, 1) := by decide +kernel
theorem dX1_settle_24 : decode cX1_settle 24 = .ok (.aaload, 1) := by decide +kernel
theorem dX1_settle_25 : decode cX1_settle 25 = .ok (.iload_n 2, 1) := by decide +kernel
theorem dX1_settle_26 : decode cX1_settle 26 = .ok (.dup2, 1) := by decide +kernel
theorem dX1_settle_27 : decode cX1_settle 27 = .ok (.iaload, 1) := by decide +kernel
theorem dX1_settle_28 : decode cX1_settle 28 = .ok (.iconst 1, 1) := by decide +kernel
theorem dX1_settle_29 : decode cX1_settle 29 = .ok (.iadd, 1) := by decide +kernel
theorem dX1_settle_30 : decode cX1_settle 30 = .ok (.iastore, 1) := by decide +kernel
theorem dX1_settle_31 : decode cX1_settle 31 = .ok (.return_, 1) := by decide +kernel
theorem dX1_waitsAtHome_0 : decode cX1_waitsAtHome 0 = .ok (.aload_n 0, 1) := by decide +kernel
theorem dX1_waitsAtHome_1 : decode cX1_waitsAtHome 1 = .ok (.getfield 15, 3) := by decide +kernel
theorem dX1_waitsAtHome_4 : decode cX1_waitsAtHome 4 = .ok (.iload_n 1, 1) := by decide +kernel
theorem dX1_waitsAtHome_5 : decode cX1_waitsAtHome 5 = .ok (.iaload, 1) := by decide +kernel
theorem dX1_waitsAtHome_6 : decode cX1_waitsAtHome 6 = .ok (.iload_n 2, 1) := by decide +kernel
theorem dX1_waitsAtHome_7 : decode cX1_waitsAtHome 7 = .ok (.if_icmp .ne 17, 3) := by decide +kernel
theorem dX1_waitsAtHome_10 : decode cX1_waitsAtHome 10 = .ok (.aload_n 0, 1) := by decide +kernel
theorem dX1_waitsAtHome_11 : decode cX1_waitsAtHome 11 = .ok (.getfield 19, 3) := by decide +kernel
theorem dX1_waitsAtHome_14 : decode cX1_waitsAtHome 14 = .ok (.iload_n 1, 1) := by decide +kernel
theorem dX1_waitsAtHome_15 : decode cX1_waitsAtHome 15 = .ok (.iaload, 1) := by decide +kernel
theorem dX1_waitsAtHome_16 : decode cX1_waitsAtHome 16 = .ok (.iload_n 2, 1) := by decide +kernel
theorem dX1_waitsAtHome_17 : decode cX1_waitsAtHome 17 = .ok (.if_icmp .ne 7, 3) := by decide +kernel
theorem dX1_waitsAtHome_20 : decode cX1_waitsAtHome 20 = .ok (.iconst 1, 1) := by decide +kernel
theorem dX1_waitsAtHome_21 : decode cX1_waitsAtHome 21 = .ok (.goto 4, 3) := by decide +kernel
theorem dX1_waitsAtHome_24 : decode cX1_waitsAtHome 24 = .ok (.iconst 0, 1) := by decide +kernel
theorem dX1_waitsAtHome_25 : decode cX1_waitsAtHome 25 = .ok (.ireturn, 1) := by decide +kernel
theorem dX2_add_0 : decode cX2_add 0 = .ok (.aload_n 0, 1) := by decide +kernel
theorem dX2_add_1 : decode cX2_add 1 = .ok (.getfield 17, 3) := by decide +kernel
theorem dX2_add_4 : decode cX2_add 4 = .ok (.iload_n 1, 1) := by decide +kernel
theorem dX2_add_5 : decode cX2_add 5 = .ok (.aaload, 1) := by decide +kernel
theorem dX2_add_6 : decode cX2_add 6 = .ok (.aload_n 0, 1) := by decide +kernel
theorem dX2_add_7 : decode cX2_add 7 = .ok (.getfield 9, 3) := by decide +kernel
theorem dX2_add_10 : decode cX2_add 10 = .ok (.iload_n 1, 1) := by decide +kernel
theorem dX2_add_11 : decode cX2_add 11 = .ok (.iaload, 1) := by decide +kernel
theorem dX2_add_12 : decode cX2_add 12 = .ok (.iload_n 2, 1) := by decide +kernel
theorem dX2_add_13 : decode cX2_add 13 = .ok (.iastore, 1) := by decide +kernel
theorem dX2_add_14 : decode cX2_add 14 = .ok (.aload_n 0, 1) := by decide +kernel
theorem dX2_add_15 : decode cX2_add 15 = .ok (.getfield 20, 3) := by decide +kernel
theorem dX2_add_18 : decode cX2_add 18 = .ok (.iload_n 1, 1) := by decide +kernel
theorem dX2_add_19 : decode cX2_add 19 = .ok (.aaload, 1) := by decide +kernel
theorem dX2_add_20 : decode cX2_add 20 = .ok (.aload_n 0, 1) := by decide +kernel
theorem dX2_add_21 : decode cX2_add 21 = .ok (.getfield 9, 3) := by decide +kernel
theorem dX2_add_24 : decode cX2_add 24 = .ok (.iload_n 1, 1) := by decide +kernel
theorem dX2_add_25 : decode cX2_add 25 = .ok (.iaload, 1) := by decide +kernel
theorem dX2_add_26 : decode cX2_add 26 = .ok (.iload_n 3, 1) := by decide +kernel
theorem dX2_add_27 : decode cX2_add 27 = .ok (.iastore, 1) := by decide +kernel
theorem dX2_add_28 : decode cX2_add 28 = .ok (.aload_n 0, 1) := by decide +kernel
theorem dX2_add_29 : decode cX2_add 29 = .ok (.getfield 9, 3) := by decide +kernel
theorem dX2_add_32 : decode cX2_add 32 = .ok (.iload_n 1, 1) := by decide +kernel
theorem dX2_add_33 : decode cX2_add 33 = .ok (.dup2, 1) := by decide +kernel
theorem dX2_add_34 : decode cX2_add 34 = .ok (.iaload, 1) := by decide +kernel
theorem dX2_add_35 : decode cX2_add 35 = .ok (.iconst 1, 1) := by decide +kernel
theorem dX2_add_36 : decode cX2_add 36 = .ok (.iadd, 1) := by decide +kernel
theorem dX2_add_37 : decode cX2_add 37 = .ok (.iastore, 1) := by decide +kernel
theorem dX2_add_38 : decode cX2_add 38 = .ok (.return_, 1) := by decide +kernel
theorem dX2_isAboveLatest_0 : decode cX2_isAboveLatest 0 = .ok (.aload_n 0, 1) := by decide +kernel
theorem dX2_isAboveLatest_1 : decode cX2_isAboveLatest 1 = .ok (.getfield 9, 3) := by decide +kernel
theorem dX2_isAboveLatest_4 : decode cX2_isAboveLatest 4 = .ok (.iload_n 1, 1) := by decide +kernel
theorem dX2_isAboveLatest_5 : decode cX2_isAboveLatest 5 = .ok (.iaload, 1) := by decide +kernel
theorem dX2_isAboveLatest_6 : decode cX2_isAboveLatest 6 = .ok (.iconst 1, 1) := by decide +kernel
theorem dX2_isAboveLatest_7 : decode cX2_isAboveLatest 7 = .ok (.isub, 1) := by decide +kernel
theorem dX2_isAboveLatest_8 : decode cX2_isAboveLatest 8 = .ok (.istore 4, 2) := by decide +kernel
theorem dX2_isAboveLatest_10 : decode cX2_isAboveLatest 10 = .ok (.iload 4, 2) := by decide +kernel
theorem dX2_isAboveLatest_12 : decode cX2_isAboveLatest 12 = .ok (.ifCond .lt 29, 3) := by decide +kernel
theorem dX2_isAboveLatest_15 : decode cX2_isAboveLatest 15 = .ok (.iload_n 2, 1) := by decide +kernel
theorem dX2_isAboveLatest_16 : decode cX2_isAboveLatest 16 = .ok (.aload_n 0, 1) := by decide +kernel
theorem dX2_isAboveLatest_17 : decode cX2_isAboveLatest 17 = .ok (.getfield 17, 3) := by decide +kernel
theorem dX2_isAboveLatest_20 : decode cX2_isAboveLatest 20 = .ok (.iload_n 1, 1) := by decide +kernel
theorem dX2_isAboveLatest_21 : decode cX2_isAboveLatest 21 = .ok (.aaload, 1) := by decide +kernel
theorem dX2_isAboveLatest_22 : decode cX2_isAboveLatest 22 = .ok (.iload 4, 2) := by decide +kernel
theorem dX2_isAboveLatest_24 : decode cX2_isAboveLatest 24 = .ok (.iaload, 1) := by decide +kernel
theorem dX2_isAboveLatest_25 : decode cX2_isAboveLatest 25 = .ok (.if_icmp .le 20, 3) := by decide +kernel
theorem dX2_isAboveLatest_28 : decode cX2_isAboveLatest 28 = .ok (.iload_n 3, 1) := by decide +kernel
theorem dX2_isAboveLatest_29 : decode cX2_isAboveLatest 29 = .ok (.aload_n 0, 1) := by decide +kernel
theorem dX2_isAboveLatest_30 : decode cX2_isAboveLatest 30 = .ok (.getfield 20, 3) := by decide +kernel
theorem dX2_isAboveLatest_33 : decode cX2_isAboveLatest 33 = .ok (.iload_n 1, 1) := by decide +kernel
theorem dX2_isAboveLatest_34 : decode cX2_isAboveLatest 34 = .ok (.aaload, 1) := by decide +kernel
theorem dX2_isAboveLatest_35 : decode cX2_isAboveLatest 35 = .ok (.iload 4, 2) := by decide +kernel
theorem dX2_isAboveLatest_37 : decode cX2_isAboveLatest 37 = .ok (.iaload, 1) := by decide +kernel
theorem dX2_isAboveLatest_38 : decode cX2_isAboveLatest 38 = .ok (.if_icmp .le 7, 3) := by decide +kernel
theorem dX2_isAboveLatest_41 : decode cX2_isAboveLatest 41 = .ok (.iconst 1, 1) := by decide +kernel
theorem dX2_isAboveLatest_42 : decode cX2_isAboveLatest 42 = .ok (.goto 4, 3) := by decide +kernel
theorem dX2_isAboveLatest_45 : decode cX2_isAboveLatest 45 = .ok (.iconst 0, 1) := by decide +kernel
theorem dX2_isAboveLatest_46 : decode cX2_isAboveLatest 46 = .ok (.ireturn, 1) := by decide +kernel
theorem dX2_latestUpTo_0 : decode cX2_latestUpTo 0 = .ok (.iconst (-1), 1) := by decide +kernel
theorem dX2_latestUpTo_1 : decode cX2_latestUpTo 1 = .ok (.istore_n 3, 1) := by decide +kernel
theorem dX2_latestUpTo_2 : decode cX2_latestUpTo 2 = .ok (.iconst 0, 1) := by decide +kernel
theorem dX2_latestUpTo_3 : decode cX2_latestUpTo 3 = .ok (.istore 4, 2) := by decide +kernel
theorem dX2_latestUpTo_5 : decode cX2_latestUpTo 5 = .ok (.iload 4, 2) := by decide +kernel
theorem dX2_latestUpTo_7 : decode cX2_latestUpTo 7 = .ok (.aload_n 0, 1) := by decide +kernel
theorem dX2_latestUpTo_8 : decode cX2_latestUpTo 8 = .ok (.getfield 9, 3) := by decide +kernel
theorem dX2_latestUpTo_11 : decode cX2_latestUpTo 11 = .ok (.iload_n 1, 1) := by decide +kernel
theorem dX2_latestUpTo_12 : decode cX2_latestUpTo 12 = .ok (.iaload, 1) := by decide +kernel
theorem dX2_latestUpTo_13 : decode cX2_latestUpTo 13 = .ok (.if_icmp .ge 25, 3) := by decide +kernel
theorem dX2_latestUpTo_16 : decode cX2_latestUpTo 16 = .ok (.aload_n 0, 1) := by decide +kernel
theorem dX2_latestUpTo_17 : decode cX2_latestUpTo 17 = .ok (.getfield 20, 3) := by decide +kernel
theorem dX2_latestUpTo_20 : decode cX2_latestUpTo 20 = .ok (.iload_n 1, 1) := by decide +kernel
theorem dX2_latestUpTo_21 : decode cX2_latestUpTo 21 = .ok (.aaload, 1) := by decide +kernel
theorem dX2_latestUpTo_22 : decode cX2_latestUpTo 22 = .ok (.iload 4, 2) := by decide +kernel
theorem dX2_latestUpTo_24 : decode cX2_latestUpTo 24 = .ok (.iaload, 1) := by decide +kernel
theorem dX2_latestUpTo_25 : decode cX2_latestUpTo 25 = .ok (.iload_n 2, 1) := by decide +kernel
theorem dX2_latestUpTo_26 : decode cX2_latestUpTo 26 = .ok (.if_icmp .gt 6, 3) := by decide +kernel
theorem dX2_latestUpTo_29 : decode cX2_latestUpTo 29 = .ok (.iload 4, 2) := by decide +kernel
theorem dX2_latestUpTo_31 : decode cX2_latestUpTo 31 = .ok (.istore_n 3, 1) := by decide +kernel
theorem dX2_latestUpTo_32 : decode cX2_latestUpTo 32 = .ok (.iinc 4 1, 3) := by decide +kernel
theorem dX2_latestUpTo_35 : decode cX2_latestUpTo 35 = .ok (.goto (-30), 3) := by decide +kernel
theorem dX2_latestUpTo_38 : decode cX2_latestUpTo 38 = .ok (.iload_n 3, 1) := by decide +kernel
theorem dX2_latestUpTo_39 : decode cX2_latestUpTo 39 = .ok (.ireturn, 1) := by decide +kernel
theorem dX2_tellRight_0 : decode cX2_tellRight 0 = .ok (.aload_n 0, 1) := by decide +kernel
theorem dX2_tellRight_1 : decode cX2_tellRight 1 = .ok (.iload_n 1, 1) := by decide +kernel
theorem dX2_tellRight_2 : decode cX2_tellRight 2 = .ok (.iload_n 2, 1) := by decide +kernel
theorem dX2_tellRight_3 : decode cX2_tellRight 3 = .ok (.invokevirtual 23, 3) := by decide +kernel
theorem dX2_tellRight_6 : decode cX2_tellRight 6 = .ok (.istore 4, 2) := by decide +kernel
theorem dX2_tellRight_8 : decode cX2_tellRight 8 = .ok (.iconst 0, 1) := by decide +kernel
theorem dX2_tellRight_9 : decode cX2_tellRight 9 = .ok (.iload 4, 2) := by decide +kernel
theorem dX2_tellRight_11 : decode cX2_tellRight 11 = .ok (.invokestatic 27, 3) := by decide +kernel
theorem dX2_tellRight_14 : decode cX2_tellRight 14 = .ok (.istore 5, 2) := by decide +kernel
theorem dX2_tellRight_16 : decode cX2_tellRight 16 = .ok (.iload_n 2, 1) := by decide +kernel
theorem dX2_tellRight_17 : decode cX2_tellRight 17 = .ok (.aload_n 0, 1) := by decide +kernel
theorem dX2_tellRight_18 : decode cX2_tellRight 18 = .ok (.getfield 20, 3) := by decide +kernel
theorem dX2_tellRight_21 : decode cX2_tellRight 21 = .ok (.iload_n 1, 1) := by decide +kernel
theorem dX2_tellRight_22 : decode cX2_tellRight 22 = .ok (.aaload, 1) := by decide +kernel
theorem dX2_tellRight_23 : decode cX2_tellRight 23 = .ok (.iload 5, 2) := by decide +kernel
theorem dX2_tellRight_25 : decode cX2_tellRight 25 = .ok (.iaload, 1) := by decide +kernel
theorem dX2_tellRight_26 : decode cX2_tellRight 26 = .ok (.isub, 1) := by decide +kernel
theorem dX2_tellRight_27 : decode cX2_tellRight 27 = .ok (.i2l, 1) := by decide +kernel
theorem dX2_tellRight_28 : decode cX2_tellRight 28 = .ok (.lstore 6, 2) := by decide +kernel
theorem dX2_tellRight_30 : decode cX2_tellRight 30 = .ok (.iload 4, 2) := by decide +kernel
theorem dX2_tellRight_32 : decode cX2_tellRight 32 = .ok (.ifCond .lt 16, 3) := by decide +kernel
theorem dX2_tellRight_35 : decode cX2_tellRight 35 = .ok (.iload 4, 2) := by decide +kernel
theorem dX2_tellRight_37 : decode cX2_tellRight 37 = .ok (.aload_n 0, 1) := by decide +kernel
theorem dX2_tellRight_38 : decode cX2_tellRight 38 = .ok (.getfield 9, 3) := by decide +kernel
theorem dX2_tellRight_41 : decode cX2_tellRight 41 = .ok (.iload_n 1, 1) := by decide +kernel
theorem dX2_tellRight_42 : decode cX2_tellRight 42 = .ok (.iaload, 1) := by decide +kernel
theorem dX2_tellRight_43 : decode cX2_tellRight 43 = .ok (.iconst 1, 1) := by decide +kernel
theorem dX2_tellRight_44 : decode cX2_tellRight 44 = .ok (.isub, 1) := by decide +kernel
theorem dX2_tellRight_45 : decode cX2_tellRight 45 = .ok (.if_icmp .ne 22, 3) := by decide +kernel
theorem dX2_tellRight_48 : decode cX2_tellRight 48 = .ok (.aload_n 3, 1) := by decide +kernel
theorem dX2_tellRight_49 : decode cX2_tellRight 49 = .ok (.aload_n 0, 1) := by decide +kernel
theorem dX2_tellRight_50 : decode cX2_tellRight 50 = .ok (.getfield 17, 3) := by decide +kernel
theorem dX2_tellRight_53 : decode cX2_tellRight 53 = .ok (.iload_n 1, 1) := by decide +kernel
theorem dX2_tellRight_54 : decode cX2_tellRight 54 = .ok (.aaload, 1) := by decide +kernel
theorem dX2_tellRight_55 : decode cX2_tellRight 55 = .ok (.iload 5, 2) := by decide +kernel
theorem dX2_tellRight_57 : decode cX2_tellRight 57 = .ok (.iaload, 1) := by decide +kernel
theorem dX2_tellRight_58 : decode cX2_tellRight 58 = .ok (.i2l, 1) := by decide +kernel
theorem dX2_tellRight_59 : decode cX2_tellRight 59 = .ok (.lload 6, 2) := by decide +kernel
theorem dX2_tellRight_61 : decode cX2_tellRight 61 = .ok (.ladd, 1) := by decide +kernel
theorem dX2_tellRight_62 : decode cX2_tellRight 62 = .ok (.lconst 1, 1) := by decide +kernel
theorem dX2_tellRight_63 : decode cX2_tellRight 63 = .ok (.invokevirtual 32, 3) := by decide +kernel
theorem dX2_tellRight_66 : decode cX2_tellRight 66 = .ok (.return_, 1) := by decide +kernel
theorem dX2_tellRight_67 : decode cX2_tellRight 67 = .ok (.aload_n 0, 1) := by decide +kernel
theorem dX2_tellRight_68 : decode cX2_tellRight 68 = .ok (.getfield 20, 3) := by decide +kernel
theorem dX2_tellRight_71 : decode cX2_tellRight 71 = .ok (.iload_n 1, 1) := by decide +kernel
theorem dX2_tellRight_72 : decode cX2_tellRight 72 = .ok (.aaload, 1) := by decide +kernel
theorem dX2_tellRight_73 : decode cX2_tellRight 73 = .ok (.iload 5, 2) := by decide +kernel
theorem dX2_tellRight_75 : decode cX2_tellRight 75 = .ok (.iconst 1, 1) := by decide +kernel
theorem dX2_tellRight_76 : decode cX2_tellRight 76 = .ok (.iadd, 1) := by decide +kernel
theorem dX2_tellRight_77 : decode cX2_tellRight 77 = .ok (.iaload, 1) := by decide +kernel
theorem dX2_tellRight_78 : decode cX2_tellRight 78 = .ok (.aload_n 0, 1) := by decide +kernel
theorem dX2_tellRight_79 : decode cX2_tellRight 79 = .ok (.getfield 20, 3) := by decide +kernel
theorem dX2_tellRight_82 : decode cX2_tellRight 82 = .ok (.iload_n 1, 1) := by decide +kernel
theorem dX2_tellRight_83 : decode cX2_tellRight 83 = .ok (.aaload, 1) := by decide +kernel
theorem dX2_tellRight_84 : decode cX2_tellRight 84 = .ok (.iload 5, 2) := by decide +kernel
theorem dX2_tellRight_86 : decode cX2_tellRight 86 = .ok (.iaload, 1) := by decide +kernel
theorem dX2_tellRight_87 : decode cX2_tellRight 87 = .ok (.isub, 1) := by decide +kernel
theorem dX2_tellRight_88 : decode cX2_tellRight 88 = .ok (.i2l, 1) := by decide +kernel
theorem dX2_tellRight_89 : decode cX2_tellRight 89 = .ok (.lstore 8, 2) := by decide +kernel
theorem dX2_tellRight_91 : decode cX2_tellRight 91 = .ok (.aload_n 0, 1) := by decide +kernel
theorem dX2_tellRight_92 : decode cX2_tellRight 92 = .ok (.getfield 17, 3) := by decide +kernel
theorem dX2_tellRight_95 : decode cX2_tellRight 95 = .ok (.iload_n 1, 1) := by decide +kernel
theorem dX2_tellRight_96 : decode cX2_tellRight 96 = .ok (.aaload, 1) := by decide +kernel
theorem dX2_tellRight_97 : decode cX2_tellRight 97 = .ok (.iload 5, 2) := by decide +kernel
theorem dX2_tellRight_99 : decode cX2_tellRight 99 = .ok (.iconst 1, 1) := by decide +kernel
theorem dX2_tellRight_100 : decode cX2_tellRight 100 = .ok (.iadd, 1) := by decide +kernel
theorem dX2_tellRight_101 : decode cX2_tellRight 101 = .ok (.iaload, 1) := by decide +kernel
theorem dX2_tellRight_102 : decode cX2_tellRight 102 = .ok (.aload_n 0, 1) := by decide +kernel
theorem dX2_tellRight_103 : decode cX2_tellRight 103 = .ok (.getfield 17, 3) := by decide +kernel
theorem dX2_tellRight_106 : decode cX2_tellRight 106 = .ok (.iload_n 1, 1) := by decide +kernel
theorem dX2_tellRight_107 : decode cX2_tellRight 107 = .ok (.aaload, 1) := by decide +kernel
theorem dX2_tellRight_108 : decode cX2_tellRight 108 = .ok (.iload 5, 2) := by decide +kernel
theorem dX2_tellRight_110 : decode cX2_tellRight 110 = .ok (.iaload, 1) := by decide +kernel
theorem dX2_tellRight_111 : decode cX2_tellRight 111 = .ok (.isub, 1) := by decide +kernel
theorem dX2_tellRight_112 : decode cX2_tellRight 112 = .ok (.i2l, 1) := by decide +kernel
theorem dX2_tellRight_113 : decode cX2_tellRight 113 = .ok (.lstore 10, 2) := by decide +kernel
theorem dX2_tellRight_115 : decode cX2_tellRight 115 = .ok (.aload_n 3, 1) := by decide +kernel
theorem dX2_tellRight_116 : decode cX2_tellRight 116 = .ok (.aload_n 0, 1) := by decide +kernel
theorem dX2_tellRight_117 : decode cX2_tellRight 117 = .ok (.getfield 17, 3) := by decide +kernel
theorem dX2_tellRight_120 : decode cX2_tellRight 120 = .ok (.iload_n 1, 1) := by decide +kernel
theorem dX2_tellRight_121 : decode cX2_tellRight 121 = .ok (.aaload, 1) := by decide +kernel
theorem dX2_tellRight_122 : decode cX2_tellRight 122 = .ok (.iload 5, 2) := by decide +kernel
theorem dX2_tellRight_124 : decode cX2_tellRight 124 = .ok (.iaload, 1) := by decide +kernel
theorem dX2_tellRight_125 : decode cX2_tellRight 125 = .ok (.i2l, 1) := by decide +kernel
theorem dX2_tellRight_126 : decode cX2_tellRight 126 = .ok (.lload 8, 2) := by decide +kernel
theorem dX2_tellRight_128 : decode cX2_tellRight 128 = .ok (.lmul, 1) := by decide +kernel
theorem dX2_tellRight_129 : decode cX2_tellRight 129 = .ok (.lload 6, 2) := by decide +kernel
theorem dX2_tellRight_131 : decode cX2_tellRight 131 = .ok (.lload 10, 2) := by decide +kernel
theorem dX2_tellRight_133 : decode cX2_tellRight 133 = .ok (.lmul, 1) := by decide +kernel
theorem dX2_tellRight_134 : decode cX2_tellRight 134 = .ok (.ladd, 1) := by decide +kernel
theorem dX2_tellRight_135 : decode cX2_tellRight 135 = .ok (.lload 8, 2) := by decide +kernel
theorem dX2_tellRight_137 : decode cX2_tellRight 137 = .ok (.invokevirtual 32, 3) := by decide +kernel
theorem dX2_tellRight_140 : decode cX2_tellRight 140 = .ok (.return_, 1) := by decide +kernel
theorem dX3_commonDivisor_0 : decode cX3_commonDivisor 0 = .ok (.lload_n 0, 1) := by decide +kernel
theorem dX3_commonDivisor_1 : decode cX3_commonDivisor 1 = .ok (.lstore 4, 2) := by decide +kernel
theorem dX3_commonDivisor_3 : decode cX3_commonDivisor 3 = .ok (.lload_n 2, 1) := by decide +kernel
theorem dX3_commonDivisor_4 : decode cX3_commonDivisor 4 = .ok (.lstore 6, 2) := by decide +kernel
theorem dX3_commonDivisor_6 : decode cX3_commonDivisor 6 = .ok (.iconst 0, 1) := by decide +kernel
theorem dX3_commonDivisor_7 : decode cX3_commonDivisor 7 = .ok (.istore 8, 2) := by decide +kernel
theorem dX3_commonDivisor_9 : decode cX3_commonDivisor 9 = .ok (.iload 8, 2) := by decide +kernel
theorem dX3_commonDivisor_11 : decode cX3_commonDivisor 11 = .ok (.bipush 100, 2) := by decide +kernel
theorem dX3_commonDivisor_13 : decode cX3_commonDivisor 13 = .ok (.if_icmp .ge 31, 3) := by decide +kernel
theorem dX3_commonDivisor_16 : decode cX3_commonDivisor 16 = .ok (.lload 6, 2) := by decide +kernel
theorem dX3_commonDivisor_18 : decode cX3_commonDivisor 18 = .ok (.lconst 0, 1) := by decide +kernel
theorem dX3_commonDivisor_19 : decode cX3_commonDivisor 19 = .ok (.lcmp, 1) := by decide +kernel
theorem dX3_commonDivisor_20 : decode cX3_commonDivisor 20 = .ok (.ifCond .eq 24, 3) := by decide +kernel
theorem dX3_commonDivisor_23 : decode cX3_commonDivisor 23 = .ok (.lload 4, 2) := by decide +kernel
theorem dX3_commonDivisor_25 : decode cX3_commonDivisor 25 = .ok (.lload 6, 2) := by decide +kernel
theorem dX3_commonDivisor_27 : decode cX3_commonDivisor 27 = .ok (.lrem, 1) := by decide +kernel
theorem dX3_commonDivisor_28 : decode cX3_commonDivisor 28 = .ok (.lstore 9, 2) := by decide +kernel
theorem dX3_commonDivisor_30 : decode cX3_commonDivisor 30 = .ok (.lload 6, 2) := by decide +kernel
theorem dX3_commonDivisor_32 : decode cX3_commonDivisor 32 = .ok (.lstore 4, 2) := by decide +kernel
theorem dX3_commonDivisor_34 : decode cX3_commonDivisor 34 = .ok (.lload 9, 2) := by decide +kernel
theorem dX3_commonDivisor_36 : decode cX3_commonDivisor 36 = .ok (.lstore 6, 2) := by decide +kernel
theorem dX3_commonDivisor_38 : decode cX3_commonDivisor 38 = .ok (.iinc 8 1, 3) := by decide +kernel
theorem dX3_commonDivisor_41 : decode cX3_commonDivisor 41 = .ok (.goto (-32), 3) := by decide +kernel
theorem dX3_commonDivisor_44 : decode cX3_commonDivisor 44 = .ok (.lload 4, 2) := by decide +kernel
theorem dX3_commonDivisor_46 : decode cX3_commonDivisor 46 = .ok (.lreturn, 1) := by decide +kernel
theorem dX3_sign_0 : decode cX3_sign 0 = .ok (.aload_n 0, 1) := by decide +kernel
theorem dX3_sign_1 : decode cX3_sign 1 = .ok (.getfield 7, 3) := by decide +kernel
theorem dX3_sign_4 : decode cX3_sign 4 = .ok (.lconst 0, 1) := by decide +kernel
theorem dX3_sign_5 : decode cX3_sign 5 = .ok (.invokestatic 26, 3) := by decide +kernel
theorem dX3_sign_8 : decode cX3_sign 8 = .ok (.ireturn, 1) := by decide +kernel
theorem dX3_tell_0 : decode cX3_tell 0 = .ok (.lload_n 1, 1) := by decide +kernel
theorem dX3_tell_1 : decode cX3_tell 1 = .ok (.invokestatic 16, 3) := by decide +kernel
theorem dX3_tell_4 : decode cX3_tell 4 = .ok (.lload_n 3, 1) := by decide +kernel
theorem dX3_tell_5 : decode cX3_tell 5 = .ok (.invokestatic 22, 3) := by decide +kernel
theorem dX3_tell_8 : decode cX3_tell 8 = .ok (.lstore 5, 2) := by decide +kernel
theorem dX3_tell_10 : decode cX3_tell 10 = .ok (.lload 5, 2) := by decide +kernel
theorem dX3_tell_12 : decode cX3_tell 12 = .ok (.lconst 0, 1) := by decide +kernel
theorem dX3_tell_13 : decode cX3_tell 13 = .ok (.lcmp, 1) := by decide +kernel
theorem dX3_tell_14 : decode cX3_tell 14 = .ok (.ifCond .gt 4, 3) := by decide +kernel
theorem dX3_tell_17 : decode cX3_tell 17 = .ok (.return_, 1) := by decide +kernel
theorem dX3_tell_18 : decode cX3_tell 18 = .ok (.aload_n 0, 1) := by decide +kernel
theorem dX3_tell_19 : decode cX3_tell 19 = .ok (.lload_n 1, 1) := by decide +kernel
theorem dX3_tell_20 : decode cX3_tell 20 = .ok (.lload 5, 2) := by decide +kernel
theorem dX3_tell_22 : decode cX3_tell 22 = .ok (.ldiv, 1) := by decide +kernel
theorem dX3_tell_23 : decode cX3_tell 23 = .ok (.putfield 7, 3) := by decide +kernel
theorem dX3_tell_26 : decode cX3_tell 26 = .ok (.aload_n 0, 1) := by decide +kernel
theorem dX3_tell_27 : decode cX3_tell 27 = .ok (.lload_n 3, 1) := by decide +kernel
theorem dX3_tell_28 : decode cX3_tell 28 = .ok (.lload 5, 2) := by decide +kernel
theorem dX3_tell_30 : decode cX3_tell 30 = .ok (.ldiv, 1) := by decide +kernel
theorem dX3_tell_31 : decode cX3_tell 31 = .ok (.putfield 13, 3) := by decide +kernel
theorem dX3_tell_34 : decode cX3_tell 34 = .ok (.return_, 1) := by decide +kernel
theorem dX4_add_0 : decode cX4_add 0 = .ok (.aload_n 0, 1) := by decide +kernel
theorem dX4_add_1 : decode cX4_add 1 = .ok (.getfield 9, 3) := by decide +kernel
theorem dX4_add_4 : decode cX4_add 4 = .ok (.istore 5, 2) := by decide +kernel
theorem dX4_add_6 : decode cX4_add 6 = .ok (.aload_n 0, 1) := by decide +kernel
theorem dX4_add_7 : decode cX4_add 7 = .ok (.dup, 1) := by decide +kernel
theorem dX4_add_8 : decode cX4_add 8 = .ok (.getfield 9, 3) := by decide +kernel
theorem dX4_add_11 : decode cX4_add 11 = .ok (.iconst 1, 1) := by decide +kernel
theorem dX4_add_12 : decode cX4_add 12 = .ok (.iadd, 1) := by decide +kernel
theorem dX4_add_13 : decode cX4_add 13 = .ok (.putfield 9, 3) := by decide +kernel
theorem dX4_add_16 : decode cX4_add 16 = .ok (.aload_n 0, 1) := by decide +kernel
theorem dX4_add_17 : decode cX4_add 17 = .ok (.getfield 15, 3) := by decide +kernel
theorem dX4_add_20 : decode cX4_add 20 = .ok (.iload 5, 2) := by decide +kernel
theorem dX4_add_22 : decode cX4_add 22 = .ok (.iload_n 3, 1) := by decide +kernel
theorem dX4_add_23 : decode cX4_add 23 = .ok (.iastore, 1) := by decide +kernel
theorem dX4_add_24 : decode cX4_add 24 = .ok (.iconst 0, 1) := by decide +kernel
theorem dX4_add_25 : decode cX4_add 25 = .ok (.istore 6, 2) := by decide +kernel
theorem dX4_add_27 : decode cX4_add 27 = .ok (.iload 6, 2) := by decide +kernel
theorem dX4_add_29 : decode cX4_add 29 = .ok (.iload_n 3, 1) := by decide +kernel
theorem dX4_add_30 : decode cX4_add 30 = .ok (.if_icmp .ge 31, 3) := by decide +kernel
theorem dX4_add_33 : decode cX4_add 33 = .ok (.iload 6, 2) := by decide +kernel
theorem dX4_add_35 : decode cX4_add 35 = .ok (.aload_n 2, 1) := by decide +kernel
theorem dX4_add_36 : decode cX4_add 36 = .ok (.arraylength, 1) := by decide +kernel
theorem dX4_add_37 : decode cX4_add 37 = .ok (.if_icmp .ge 24, 3) := by decide +kernel
theorem dX4_add_40 : decode cX4_add 40 = .ok (.aload_n 0, 1) := by decide +kernel
theorem dX4_add_41 : decode cX4_add 41 = .ok (.getfield 21, 3) := by decide +kernel
theorem dX4_add_44 : decode cX4_add 44 = .ok (.iload 5, 2) := by decide +kernel
theorem dX4_add_46 : decode cX4_add 46 = .ok (.aaload, 1) := by decide +kernel
theorem dX4_add_47 : decode cX4_add 47 = .ok (.iload 6, 2) := by decide +kernel
theorem dX4_add_49 : decode cX4_add 49 = .ok (.aload_n 2, 1) := by decide +kernel
theorem dX4_add_50 : decode cX4_add 50 = .ok (.iload 6, 2) := by decide +kernel
theorem dX4_add_52 : decode cX4_add 52 = .ok (.laload, 1) := by decide +kernel
theorem dX4_add_53 : decode cX4_add 53 = .ok (.l2i, 1) := by decide +kernel
theorem dX4_add_54 : decode cX4_add 54 = .ok (.iastore, 1) := by decide +kernel
theorem dX4_add_55 : decode cX4_add 55 = .ok (.iinc 6 1, 3) := by decide +kernel
theorem dX4_add_58 : decode cX4_add 58 = .ok (.goto (-31), 3) := by decide +kernel
theorem dX4_add_61 : decode cX4_add 61 = .ok (.aload_n 0, 1) := by decide +kernel
theorem dX4_add_62 : decode cX4_add 62 = .ok (.getfield 27, 3) := by decide +kernel
theorem dX4_add_65 : decode cX4_add 65 = .ok (.iload 5, 2) := by decide +kernel
theorem dX4_add_67 : decode cX4_add 67 = .ok (.aaload, 1) := by decide +kernel
theorem dX4_add_68 : decode cX4_add 68 = .ok (.iconst (-1), 1) := by decide +kernel
theorem dX4_add_69 : decode cX4_add 69 = .ok (.invokestatic 35, 3) := by decide +kernel
theorem dX4_add_72 : decode cX4_add 72 = .ok (.aload_n 0, 1) := by decide +kernel
theorem dX4_add_73 : decode cX4_add 73 = .ok (.getfield 27, 3) := by decide +kernel
theorem dX4_add_76 : decode cX4_add 76 = .ok (.iload 5, 2) := by decide +kernel
theorem dX4_add_78 : decode cX4_add 78 = .ok (.aaload, 1) := by decide +kernel
theorem dX4_add_79 : decode cX4_add 79 = .ok (.iload_n 1, 1) := by decide +kernel
theorem dX4_add_80 : decode cX4_add 80 = .ok (.iload 4, 2) := by decide +kernel
theorem dX4_add_82 : decode cX4_add 82 = .ok (.iastore, 1) := by decide +kernel
theorem dX4_add_83 : decode cX4_add 83 = .ok (.aload_n 0, 1) := by decide +kernel
theorem dX4_add_84 : decode cX4_add 84 = .ok (.getfield 32, 3) := by decide +kernel
theorem dX4_add_87 : decode cX4_add 87 = .ok (.iload 5, 2) := by decide +kernel
theorem dX4_add_89 : decode cX4_add 89 = .ok (.aaload, 1) := by decide +kernel
theorem dX4_add_90 : decode cX4_add 90 = .ok (.iload_n 1, 1) := by decide +kernel
theorem dX4_add_91 : decode cX4_add 91 = .ok (.iload_n 3, 1) := by decide +kernel
theorem dX4_add_92 : decode cX4_add 92 = .ok (.invokestatic 41, 3) := by decide +kernel
theorem dX4_add_95 : decode cX4_add 95 = .ok (.lastore, 1) := by decide +kernel
theorem dX4_add_96 : decode cX4_add 96 = .ok (.iload 5, 2) := by decide +kernel
theorem dX4_add_98 : decode cX4_add 98 = .ok (.ireturn, 1) := by decide +kernel
theorem dX4_allOf_0 : decode cX4_allOf 0 = .ok (.lconst 1, 1) := by decide +kernel
theorem dX4_allOf_1 : decode cX4_allOf 1 = .ok (.iload_n 0, 1) := by decide +kernel
theorem dX4_allOf_2 : decode cX4_allOf 2 = .ok (.lshl, 1) := by decide +kernel
theorem dX4_allOf_3 : decode cX4_allOf 3 = .ok (.lconst 1, 1) := by decide +kernel
theorem dX4_allOf_4 : decode cX4_allOf 4 = .ok (.lsub, 1) := by decide +kernel
theorem dX4_allOf_5 : decode cX4_allOf 5 = .ok (.lreturn, 1) := by decide +kernel
theorem dX4_byteThere_0 : decode cX4_byteThere 0 = .ok (.aload_n 0, 1) := by decide +kernel
theorem dX4_byteThere_1 : decode cX4_byteThere 1 = .ok (.getfield 32, 3) := by decide +kernel
theorem dX4_byteThere_4 : decode cX4_byteThere 4 = .ok (.iload_n 1, 1) := by decide +kernel
theorem dX4_byteThere_5 : decode cX4_byteThere 5 = .ok (.aaload, 1) := by decide +kernel
theorem dX4_byteThere_6 : decode cX4_byteThere 6 = .ok (.iload_n 2, 1) := by decide +kernel
theorem dX4_byteThere_7 : decode cX4_byteThere 7 = .ok (.laload, 1) := by decide +kernel
theorem dX4_byteThere_8 : decode cX4_byteThere 8 = .ok (.iload_n 3, 1) := by decide +kernel
theorem dX4_byteThere_9 : decode cX4_byteThere 9 = .ok (.lshr, 1) := by decide +kernel
theorem dX4_byteThere_10 : decode cX4_byteThere 10 = .ok (.lconst 1, 1) := by decide +kernel
theorem dX4_byteThere_11 : decode cX4_byteThere 11 = .ok (.land, 1) := by decide +kernel
theorem dX4_byteThere_12 : decode cX4_byteThere 12 = .ok (.lconst 1, 1) := by decide +kernel
theorem dX4_byteThere_13 : decode cX4_byteThere 13 = .ok (.lcmp, 1) := by decide +kernel
theorem dX4_byteThere_14 : decode cX4_byteThere 14 = .ok (.ifCond .ne 14, 3) := by decide +kernel
theorem dX4_byteThere_17 : decode cX4_byteThere 17 = .ok (.aload_n 0, 1) := by decide +kernel
theorem dX4_byteThere_18 : decode cX4_byteThere 18 = .ok (.getfield 21, 3) := by decide +kernel
theorem dX4_byteThere_21 : decode cX4_byteThere 21 = .ok (.iload_n 1, 1) := by decide +kernel
theorem dX4_byteThere_22 : decode cX4_byteThere 22 = .ok (.aaload, 1) := by decide +kernel
theorem dX4_byteThere_23 : decode cX4_byteThere 23 = .ok (.iload_n 3, 1) := by decide +kernel
theorem dX4_byteThere_24 : decode cX4_byteThere 24 = .ok (.iaload, 1) := by decide +kernel
theorem dX4_byteThere_25 : decode cX4_byteThere 25 = .ok (.goto 4, 3) := by decide +kernel
theorem dX4_byteThere_28 : decode cX4_byteThere 28 = .ok (.iconst 0, 1) := by decide +kernel
theorem dX4_byteThere_29 : decode cX4_byteThere 29 = .ok (.ireturn, 1) := by decide +kernel
theorem dX4_join_0 : decode cX4_join 0 = .ok (.aload_n 0, 1) := by decide +kernel
theorem dX4_join_1 : decode cX4_join 1 = .ok (.getfield 15, 3) := by decide +kernel
theorem dX4_join_4 : decode cX4_join 4 = .ok (.iload_n 1, 1) := by decide +kernel
theorem dX4_join_5 : decode cX4_join 5 = .ok (.iaload, 1) := by decide +kernel
theorem dX4_join_6 : decode cX4_join 6 = .ok (.invokestatic 41, 3) := by decide +kernel
theorem dX4_join_9 : decode cX4_join 9 = .ok (.lstore 6, 2) := by decide +kernel
theorem dX4_join_11 : decode cX4_join 11 = .ok (.iload_n 3, 1) := by decide +kernel
theorem dX4_join_12 : decode cX4_join 12 = .ok (.iconst (-1), 1) := by decide +kernel
theorem dX4_join_13 : decode cX4_join 13 = .ok (.if_icmp .ne 7, 3) := by decide +kernel
theorem dX4_join_16 : decode cX4_join 16 = .ok (.lconst 0, 1) := by decide +kernel
theorem dX4_join_17 : decode cX4_join 17 = .ok (.goto 14, 3) := by decide +kernel
theorem dX4_join_20 : decode cX4_join 20 = .ok (.iload 4, 2) := by decide +kernel
theorem dX4_join_22 : decode cX4_join 22 = .ok (.iload_n 3, 1) := by decide +kernel
theorem dX4_join_23 : decode cX4_join 23 = .ok (.isub, 1) := by decide +kernel
theorem dX4_join_24 : decode cX4_join 24 = .ok (.iconst 1, 1) := by decide +kernel
theorem dX4_join_25 : decode cX4_join 25 = .ok (.iadd, 1) := by decide +kernel
theorem dX4_join_26 : decode cX4_join 26 = .ok (.invokestatic 41, 3) := by decide +kernel
theorem dX4_join_29 : decode cX4_join 29 = .ok (.iload_n 3, 1) := by decide +kernel
theorem dX4_join_30 : decode cX4_join 30 = .ok (.lshl, 1) := by decide +kernel
theorem dX4_join_31 : decode cX4_join 31 = .ok (.lstore 8, 2) := by decide +kernel
theorem dX4_join_33 : decode cX4_join 33 = .ok (.aload_n 0, 1) := by decide +kernel
theorem dX4_join_34 : decode cX4_join 34 = .ok (.getfield 32, 3) := by decide +kernel
theorem dX4_join_37 : decode cX4_join 37 = .ok (.iload_n 1, 1) := by decide +kernel
theorem dX4_join_38 : decode cX4_join 38 = .ok (.aaload, 1) := by decide +kernel
theorem dX4_join_39 : decode cX4_join 39 = .ok (.iload_n 2, 1) := by decide +kernel
theorem dX4_join_40 : decode cX4_join 40 = .ok (.dup2, 1) := by decide +kernel
theorem dX4_join_41 : decode cX4_join 41 = .ok (.laload, 1) := by decide +kernel
theorem dX4_join_42 : decode cX4_join 42 = .ok (.lload 6, 2) := by decide +kernel
theorem dX4_join_44 : decode cX4_join 44 = .ok (.lload 8, 2) := by decide +kernel
theorem dX4_join_46 : decode cX4_join 46 = .ok (.ldc2_w 45, 3) := by decide +kernel
theorem dX4_join_49 : decode cX4_join 49 = .ok (.lxor, 1) := by decide +kernel
theorem dX4_join_50 : decode cX4_join 50 = .ok (.land, 1) := by decide +kernel
theorem dX4_join_51 : decode cX4_join 51 = .ok (.lor, 1) := by decide +kernel
theorem dX4_join_52 : decode cX4_join 52 = .ok (.lastore, 1) := by decide +kernel
theorem dX4_join_53 : decode cX4_join 53 = .ok (.aload_n 0, 1) := by decide +kernel
theorem dX4_join_54 : decode cX4_join 54 = .ok (.getfield 27, 3) := by decide +kernel
theorem dX4_join_57 : decode cX4_join 57 = .ok (.iload_n 1, 1) := by decide +kernel
theorem dX4_join_58 : decode cX4_join 58 = .ok (.aaload, 1) := by decide +kernel
theorem dX4_join_59 : decode cX4_join 59 = .ok (.iload_n 2, 1) := by decide +kernel
theorem dX4_join_60 : decode cX4_join 60 = .ok (.iaload, 1) := by decide +kernel
theorem dX4_join_61 : decode cX4_join 61 = .ok (.iconst (-1), 1) := by decide +kernel
theorem dX4_join_62 : decode cX4_join 62 = .ok (.if_icmp .ne 17, 3) := by decide +kernel
theorem dX4_join_65 : decode cX4_join 65 = .ok (.aload_n 0, 1) := by decide +kernel
theorem dX4_join_66 : decode cX4_join 66 = .ok (.getfield 32, 3) := by decide +kernel
theorem dX4_join_69 : decode cX4_join 69 = .ok (.iload_n 1, 1) := by decide +kernel
theorem dX4_join_70 : decode cX4_join 70 = .ok (.aaload, 1) := by decide +kernel
theorem dX4_join_71 : decode cX4_join 71 = .ok (.iload_n 2, 1) := by decide +kernel
theorem dX4_join_72 : decode cX4_join 72 = .ok (.laload, 1) := by decide +kernel
theorem dX4_join_73 : decode cX4_join 73 = .ok (.lload 6, 2) := by decide +kernel
theorem dX4_join_75 : decode cX4_join 75 = .ok (.lcmp, 1) := by decide +kernel
theorem dX4_join_76 : decode cX4_join 76 = .ok (.ifCond .eq 5, 3) := by decide +kernel
theorem dX4_join_79 : decode cX4_join 79 = .ok (.iconst 0, 1) := by decide +kernel
theorem dX4_join_80 : decode cX4_join 80 = .ok (.ireturn, 1) := by decide +kernel
theorem dX4_join_81 : decode cX4_join 81 = .ok (.aload_n 0, 1) := by decide +kernel
theorem dX4_join_82 : decode cX4_join 82 = .ok (.getfield 27, 3) := by decide +kernel
theorem dX4_join_85 : decode cX4_join 85 = .ok (.iload_n 1, 1) := by decide +kernel
theorem dX4_join_86 : decode cX4_join 86 = .ok (.aaload, 1) := by decide +kernel
theorem dX4_join_87 : decode cX4_join 87 = .ok (.iload_n 2, 1) := by decide +kernel
theorem dX4_join_88 : decode cX4_join 88 = .ok (.iload 5, 2) := by decide +kernel
theorem dX4_join_90 : decode cX4_join 90 = .ok (.iastore, 1) := by decide +kernel
theorem dX4_join_91 : decode cX4_join 91 = .ok (.iconst 1, 1) := by decide +kernel
theorem dX4_join_92 : decode cX4_join 92 = .ok (.ireturn, 1) := by decide +kernel
theorem dX5_canGoOn_0 : decode cX5_canGoOn 0 = .ok (.iconst 0, 1) := by decide +kernel
theorem dX5_canGoOn_1 : decode cX5_canGoOn 1 = .ok (.istore_n 3, 1) := by decide +kernel
theorem dX5_canGoOn_2 : decode cX5_canGoOn 2 = .ok (.iload_n 3, 1) := by decide +kernel
theorem dX5_canGoOn_3 : decode cX5_canGoOn 3 = .ok (.iload_n 1, 1) := by decide +kernel
theorem dX5_canGoOn_4 : decode cX5_canGoOn 4 = .ok (.if_icmp .gt 21, 3) := by decide +kernel
theorem dX5_canGoOn_7 : decode cX5_canGoOn 7 = .ok (.aload_n 0, 1) := by decide +kernel
theorem dX5_canGoOn_8 : decode cX5_canGoOn 8 = .ok (.getfield 9, 3) := by decide +kernel
theorem dX5_canGoOn_11 : decode cX5_canGoOn 11 = .ok (.iload_n 3, 1) := by decide +kernel
theorem dX5_canGoOn_12 : decode cX5_canGoOn 12 = .ok (.iaload, 1) := by decide +kernel
theorem dX5_canGoOn_13 : decode cX5_canGoOn 13 = .ok (.iload_n 2, 1) := by decide +kernel
theorem dX5_canGoOn_14 : decode cX5_canGoOn 14 = .ok (.if_icmp .ne 5, 3) := by decide +kernel
theorem dX5_canGoOn_17 : decode cX5_canGoOn 17 = .ok (.iconst 0, 1) := by decide +kernel
theorem dX5_canGoOn_18 : decode cX5_canGoOn 18 = .ok (.ireturn, 1) := by decide +kernel
theorem dX5_canGoOn_19 : decode cX5_canGoOn 19 = .ok (.iinc 3 1, 3) := by decide +kernel
theorem dX5_canGoOn_22 : decode cX5_canGoOn 22 = .ok (.goto (-20), 3) := by decide +kernel
theorem dX5_canGoOn_25 : decode cX5_canGoOn 25 = .ok (.aload_n 0, 1) := by decide +kernel
theorem dX5_canGoOn_26 : decode cX5_canGoOn 26 = .ok (.getfield 53, 3) := by decide +kernel
theorem dX5_canGoOn_29 : decode cX5_canGoOn 29 = .ok (.aload_n 0, 1) := by decide +kernel
theorem dX5_canGoOn_30 : decode cX5_canGoOn 30 = .ok (.getfield 9, 3) := by decide +kernel
theorem dX5_canGoOn_33 : decode cX5_canGoOn 33 = .ok (.iload_n 1, 1) := by decide +kernel
theorem dX5_canGoOn_34 : decode cX5_canGoOn 34 = .ok (.iaload, 1) := by decide +kernel
theorem dX5_canGoOn_35 : decode cX5_canGoOn 35 = .ok (.iload_n 2, 1) := by decide +kernel
theorem dX5_canGoOn_36 : decode cX5_canGoOn 36 = .ok (.invokevirtual 77, 3) := by decide +kernel
theorem dX5_canGoOn_39 : decode cX5_canGoOn 39 = .ok (.ifCond .eq 26, 3) := by decide +kernel
theorem dX5_canGoOn_42 : decode cX5_canGoOn 42 = .ok (.aload_n 0, 1) := by decide +kernel
theorem dX5_canGoOn_43 : decode cX5_canGoOn 43 = .ok (.getfield 57, 3) := by decide +kernel
theorem dX5_canGoOn_46 : decode cX5_canGoOn 46 = .ok (.getfield 80, 3) := by decide +kernel
theorem dX5_canGoOn_49 : decode cX5_canGoOn 49 = .ok (.iload_n 2, 1) := by decide +kernel
theorem dX5_canGoOn_50 : decode cX5_canGoOn 50 = .ok (.aaload, 1) := by decide +kernel
theorem dX5_canGoOn_51 : decode cX5_canGoOn 51 = .ok (.aload_n 0, 1) := by decide +kernel
theorem dX5_canGoOn_52 : decode cX5_canGoOn 52 = .ok (.getfield 9, 3) := by decide +kernel
theorem dX5_canGoOn_55 : decode cX5_canGoOn 55 = .ok (.iload_n 1, 1) := by decide +kernel
theorem dX5_canGoOn_56 : decode cX5_canGoOn 56 = .ok (.iaload, 1) := by decide +kernel
theorem dX5_canGoOn_57 : decode cX5_canGoOn 57 = .ok (.iaload, 1) := by decide +kernel
theorem dX5_canGoOn_58 : decode cX5_canGoOn 58 = .ok (.ifCond .le 7, 3) := by decide +kernel
theorem dX5_canGoOn_61 : decode cX5_canGoOn 61 = .ok (.iconst 1, 1) := by decide +kernel
theorem dX5_canGoOn_62 : decode cX5_canGoOn 62 = .ok (.goto 4, 3) := by decide +kernel
theorem dX5_canGoOn_65 : decode cX5_canGoOn 65 = .ok (.iconst 0, 1) := by decide +kernel
theorem dX5_canGoOn_66 : decode cX5_canGoOn 66 = .ok (.ireturn, 1) := by decide +kernel
theorem dX5_extend_0 : decode cX5_extend 0 = .ok (.iload_n 1, 1) := by decide +kernel
theorem dX5_extend_1 : decode cX5_extend 1 = .ok (.iconst 3, 1) := by decide +kernel
theorem dX5_extend_2 : decode cX5_extend 2 = .ok (.if_icmp .lt 4, 3) := by decide +kernel
theorem dX5_extend_5 : decode cX5_extend 5 = .ok (.return_, 1) := by decide +kernel
theorem dX5_extend_6 : decode cX5_extend 6 = .ok (.iconst 0, 1) := by decide +kernel
theorem dX5_extend_7 : decode cX5_extend 7 = .ok (.istore_n 2, 1) := by decide +kernel
theorem dX5_extend_8 : decode cX5_extend 8 = .ok (.iload_n 2, 1) := by decide +kernel
theorem dX5_extend_9 : decode cX5_extend 9 = .ok (.aload_n 0, 1) := by decide +kernel
theorem dX5_extend_10 : decode cX5_extend 10 = .ok (.getfield 53, 3) := by decide +kernel
theorem dX5_extend_13 : decode cX5_extend 13 = .ok (.getfield 65, 3) := by decide +kernel
theorem dX5_extend_16 : decode cX5_extend 16 = .ok (.if_icmp .ge 55, 3) := by decide +kernel
theorem dX5_extend_19 : decode cX5_extend 19 = .ok (.aload_n 0, 1) := by decide +kernel
theorem dX5_extend_20 : decode cX5_extend 20 = .ok (.iload_n 1, 1) := by decide +kernel
theorem dX5_extend_21 : decode cX5_extend 21 = .ok (.iload_n 2, 1) := by decide +kernel
theorem dX5_extend_22 : decode cX5_extend 22 = .ok (.invokevirtual 70, 3) := by decide +kernel
theorem dX5_extend_25 : decode cX5_extend 25 = .ok (.ifCond .ne 6, 3) := by decide +kernel
theorem dX5_extend_28 : decode cX5_extend 28 = .ok (.goto 37, 3) := by decide +kernel
theorem dX5_extend_31 : decode cX5_extend 31 = .ok (.aload_n 0, 1) := by decide +kernel
theorem dX5_extend_32 : decode cX5_extend 32 = .ok (.getfield 9, 3) := by decide +kernel
theorem dX5_extend_35 : decode cX5_extend 35 = .ok (.iload_n 1, 1) := by decide +kernel
theorem dX5_extend_36 : decode cX5_extend 36 = .ok (.iconst 1, 1) := by decide +kernel
theorem dX5_extend_37 : decode cX5_extend 37 = .ok (.iadd, 1) := by decide +kernel
theorem dX5_extend_38 : decode cX5_extend 38 = .ok (.iload_n 2, 1) := by decide +kernel
theorem dX5_extend_39 : decode cX5_extend 39 = .ok (.iastore, 1) := by decide +kernel
theorem dX5_extend_40 : decode cX5_extend 40 = .ok (.iload_n 2, 1) := by decide +kernel
theorem dX5_extend_41 : decode cX5_extend 41 = .ok (.aload_n 0, 1) := by decide +kernel
theorem dX5_extend_42 : decode cX5_extend 42 = .ok (.getfield 21, 3) := by decide +kernel
theorem dX5_extend_45 : decode cX5_extend 45 = .ok (.if_icmp .ne 13, 3) := by decide +kernel
theorem dX5_extend_48 : decode cX5_extend 48 = .ok (.aload_n 0, 1) := by decide +kernel
theorem dX5_extend_49 : decode cX5_extend 49 = .ok (.iload_n 1, 1) := by decide +kernel
theorem dX5_extend_50 : decode cX5_extend 50 = .ok (.iconst 1, 1) := by decide +kernel
theorem dX5_extend_51 : decode cX5_extend 51 = .ok (.iadd, 1) := by decide +kernel
theorem dX5_extend_52 : decode cX5_extend 52 = .ok (.invokevirtual 74, 3) := by decide +kernel
theorem dX5_extend_55 : decode cX5_extend 55 = .ok (.goto 10, 3) := by decide +kernel
theorem dX5_extend_58 : decode cX5_extend 58 = .ok (.aload_n 0, 1) := by decide +kernel
theorem dX5_extend_59 : decode cX5_extend 59 = .ok (.iload_n 1, 1) := by decide +kernel
theorem dX5_extend_60 : decode cX5_extend 60 = .ok (.iconst 1, 1) := by decide +kernel
theorem dX5_extend_61 : decode cX5_extend 61 = .ok (.iadd, 1) := by decide +kernel
theorem dX5_extend_62 : decode cX5_extend 62 = .ok (.invokevirtual 61, 3) := by decide +kernel
theorem dX5_extend_65 : decode cX5_extend 65 = .ok (.iinc 2 1, 3) := by decide +kernel
theorem dX5_extend_68 : decode cX5_extend 68 = .ok (.goto (-60), 3) := by decide +kernel
theorem dX5_extend_71 : decode cX5_extend 71 = .ok (.return_, 1) := by decide +kernel
theorem dX5_goToNextDoubles_0 : decode cX5_goToNextDoubles 0 = .ok (.iload_n 1, 1) := by decide +kernel
theorem dX5_goToNextDoubles_1 : decode cX5_goToNextDoubles 1 = .ok (.iconst 1, 1) := by decide +kernel
theorem dX5_goToNextDoubles_2 : decode cX5_goToNextDoubles 2 = .ok (.isub, 1) := by decide +kernel
theorem dX5_goToNextDoubles_3 : decode cX5_goToNextDoubles 3 = .ok (.istore_n 2, 1) := by decide +kernel
theorem dX5_goToNextDoubles_4 : decode cX5_goToNextDoubles 4 = .ok (.iload_n 2, 1) := by decide +kernel
theorem dX5_goToNextDoubles_5 : decode cX5_goToNextDoubles 5 = .ok (.ifCond .lt 42, 3) := by decide +kernel
theorem dX5_goToNextDoubles_8 : decode cX5_goToNextDoubles 8 = .ok (.aload_n 0, 1) := by decide +kernel
theorem dX5_goToNextDoubles_9 : decode cX5_goToNextDoubles 9 = .ok (.getfield 15, 3) := by decide +kernel
theorem dX5_goToNextDoubles_12 : decode cX5_goToNextDoubles 12 = .ok (.iload_n 2, 1) := by decide +kernel
theorem dX5_goToNextDoubles_13 : decode cX5_goToNextDoubles 13 = .ok (.iaload, 1) := by decide +kernel
theorem dX5_goToNextDoubles_14 : decode cX5_goToNextDoubles 14 = .ok (.aload_n 0, 1) := by decide +kernel
theorem dX5_goToNextDoubles_15 : decode cX5_goToNextDoubles 15 = .ok (.getfield 18, 3) := by decide +kernel
theorem dX5_goToNextDoubles_18 : decode cX5_goToNextDoubles 18 = .ok (.iload_n 2, 1) := by decide +kernel
theorem dX5_goToNextDoubles_19 : decode cX5_goToNextDoubles 19 = .ok (.iaload, 1) := by decide +kernel
theorem dX5_goToNextDoubles_20 : decode cX5_goToNextDoubles 20 = .ok (.if_icmp .ge 14, 3) := by decide +kernel
theorem dX5_goToNextDoubles_23 : decode cX5_goToNextDoubles 23 = .ok (.aload_n 0, 1) := by decide +kernel
theorem dX5_goToNextDoubles_24 : decode cX5_goToNextDoubles 24 = .ok (.getfield 15, 3) := by decide +kernel
theorem dX5_goToNextDoubles_27 : decode cX5_goToNextDoubles 27 = .ok (.iload_n 2, 1) := by decide +kernel
theorem dX5_goToNextDoubles_28 : decode cX5_goToNextDoubles 28 = .ok (.dup2, 1) := by decide +kernel
theorem dX5_goToNextDoubles_29 : decode cX5_goToNextDoubles 29 = .ok (.iaload, 1) := by decide +kernel
theorem dX5_goToNextDoubles_30 : decode cX5_goToNextDoubles 30 = .ok (.iconst 1, 1) := by decide +kernel
theorem dX5_goToNextDoubles_31 : decode cX5_goToNextDoubles 31 = .ok (.iadd, 1) := by decide +kernel
theorem dX5_goToNextDoubles_32 : decode cX5_goToNextDoubles 32 = .ok (.iastore, 1) := by decide +kernel
theorem dX5_goToNextDoubles_33 : decode cX5_goToNextDoubles 33 = .ok (.return_, 1) := by decide +kernel
theorem dX5_goToNextDoubles_34 : decode cX5_goToNextDoubles 34 = .ok (.aload_n 0, 1) := by decide +kernel
theorem dX5_goToNextDoubles_35 : decode cX5_goToNextDoubles 35 = .ok (.getfield 15, 3) := by decide +kernel
theorem dX5_goToNextDoubles_38 : decode cX5_goToNextDoubles 38 = .ok (.iload_n 2, 1) := by decide +kernel
theorem dX5_goToNextDoubles_39 : decode cX5_goToNextDoubles 39 = .ok (.iconst 1, 1) := by decide +kernel
theorem dX5_goToNextDoubles_40 : decode cX5_goToNextDoubles 40 = .ok (.iastore, 1) := by decide +kernel
theorem dX5_goToNextDoubles_41 : decode cX5_goToNextDoubles 41 = .ok (.iinc 2 (-1), 3) := by decide +kernel
theorem dX5_goToNextDoubles_44 : decode cX5_goToNextDoubles 44 = .ok (.goto (-40), 3) := by decide +kernel
theorem dX5_goToNextDoubles_47 : decode cX5_goToNextDoubles 47 = .ok (.return_, 1) := by decide +kernel
theorem dX5_isBetter_0 : decode cX5_isBetter 0 = .ok (.aload_n 0, 1) := by decide +kernel
theorem dX5_isBetter_1 : decode cX5_isBetter 1 = .ok (.getfield 31, 3) := by decide +kernel
theorem dX5_isBetter_4 : decode cX5_isBetter 4 = .ok (.iconst (-1), 1) := by decide +kernel
theorem dX5_isBetter_5 : decode cX5_isBetter 5 = .ok (.if_icmp .eq 11, 3) := by decide +kernel
theorem dX5_isBetter_8 : decode cX5_isBetter 8 = .ok (.iload_n 1, 1) := by decide +kernel
theorem dX5_isBetter_9 : decode cX5_isBetter 9 = .ok (.aload_n 0, 1) := by decide +kernel
theorem dX5_isBetter_10 : decode cX5_isBetter 10 = .ok (.getfield 31, 3) := by decide +kernel
theorem dX5_isBetter_13 : decode cX5_isBetter 13 = .ok (.if_icmp .ge 5, 3) := by decide +kernel
theorem dX5_isBetter_16 : decode cX5_isBetter 16 = .ok (.iconst 1, 1) := by decide +kernel
theorem dX5_isBetter_17 : decode cX5_isBetter 17 = .ok (.ireturn, 1) := by decide +kernel
theorem dX5_isBetter_18 : decode cX5_isBetter 18 = .ok (.iload_n 1, 1) := by decide +kernel
theorem dX5_isBetter_19 : decode cX5_isBetter 19 = .ok (.aload_n 0, 1) := by decide +kernel
theorem dX5_isBetter_20 : decode cX5_isBetter 20 = .ok (.getfield 31, 3) := by decide +kernel
theorem dX5_isBetter_23 : decode cX5_isBetter 23 = .ok (.if_icmp .ne 15, 3) := by decide +kernel
theorem dX5_isBetter_26 : decode cX5_isBetter 26 = .ok (.iload_n 2, 1) := by decide +kernel
theorem dX5_isBetter_27 : decode cX5_isBetter 27 = .ok (.aload_n 0, 1) := by decide +kernel
theorem dX5_isBetter_28 : decode cX5_isBetter 28 = .ok (.getfield 34, 3) := by decide +kernel
theorem dX5_isBetter_31 : decode cX5_isBetter 31 = .ok (.if_icmp .ge 7, 3) := by decide +kernel
theorem dX5_isBetter_34 : decode cX5_isBetter 34 = .ok (.iconst 1, 1) := by decide +kernel
theorem dX5_isBetter_35 : decode cX5_isBetter 35 = .ok (.goto 4, 3) := by decide +kernel
theorem dX5_isBetter_38 : decode cX5_isBetter 38 = .ok (.iconst 0, 1) := by decide +kernel
theorem dX5_isBetter_39 : decode cX5_isBetter 39 = .ok (.ireturn, 1) := by decide +kernel
theorem dX5_seek_0 : decode cX5_seek 0 = .ok (.aload_n 0, 1) := by decide +kernel
theorem dX5_seek_1 : decode cX5_seek 1 = .ok (.getfield 9, 3) := by decide +kernel
theorem dX5_seek_4 : decode cX5_seek 4 = .ok (.iconst 0, 1) := by decide +kernel
theorem dX5_seek_5 : decode cX5_seek 5 = .ok (.iload_n 1, 1) := by decide +kernel
theorem dX5_seek_6 : decode cX5_seek 6 = .ok (.iastore, 1) := by decide +kernel
theorem dX5_seek_7 : decode cX5_seek 7 = .ok (.aload_n 0, 1) := by decide +kernel
theorem dX5_seek_8 : decode cX5_seek 8 = .ok (.iload_n 2, 1) := by decide +kernel
theorem dX5_seek_9 : decode cX5_seek 9 = .ok (.putfield 21, 3) := by decide +kernel
theorem dX5_seek_12 : decode cX5_seek 12 = .ok (.aload_n 0, 1) := by decide +kernel
theorem dX5_seek_13 : decode cX5_seek 13 = .ok (.iload_n 3, 1) := by decide +kernel
theorem dX5_seek_14 : decode cX5_seek 14 = .ok (.putfield 25, 3) := by decide +kernel
theorem dX5_seek_17 : decode cX5_seek 17 = .ok (.aload_n 0, 1) := by decide +kernel
theorem dX5_seek_18 : decode cX5_seek 18 = .ok (.iload 4, 2) := by decide +kernel
theorem dX5_seek_20 : decode cX5_seek 20 = .ok (.putfield 28, 3) := by decide +kernel
theorem dX5_seek_23 : decode cX5_seek 23 = .ok (.aload_n 0, 1) := by decide +kernel
theorem dX5_seek_24 : decode cX5_seek 24 = .ok (.iconst (-1), 1) := by decide +kernel
theorem dX5_seek_25 : decode cX5_seek 25 = .ok (.putfield 31, 3) := by decide +kernel
theorem dX5_seek_28 : decode cX5_seek 28 = .ok (.aload_n 0, 1) := by decide +kernel
theorem dX5_seek_29 : decode cX5_seek 29 = .ok (.iconst 0, 1) := by decide +kernel
theorem dX5_seek_30 : decode cX5_seek 30 = .ok (.invokevirtual 61, 3) := by decide +kernel
theorem dX5_seek_33 : decode cX5_seek 33 = .ok (.aload_n 0, 1) := by decide +kernel
theorem dX5_seek_34 : decode cX5_seek 34 = .ok (.getfield 31, 3) := by decide +kernel
theorem dX5_seek_37 : decode cX5_seek 37 = .ok (.ireturn, 1) := by decide +kernel
theorem dX5_tryDoubles_0 : decode cX5_tryDoubles 0 = .ok (.iconst 1, 1) := by decide +kernel
theorem dX5_tryDoubles_1 : decode cX5_tryDoubles 1 = .ok (.istore_n 2, 1) := by decide +kernel
theorem dX5_tryDoubles_2 : decode cX5_tryDoubles 2 = .ok (.iconst 0, 1) := by decide +kernel
theorem dX5_tryDoubles_3 : decode cX5_tryDoubles 3 = .ok (.istore_n 3, 1) := by decide +kernel
theorem dX5_tryDoubles_4 : decode cX5_tryDoubles 4 = .ok (.iconst 0, 1) := by decide +kernel
theorem dX5_tryDoubles_5 : decode cX5_tryDoubles 5 = .ok (.istore 4, 2) := by decide +kernel
theorem dX5_tryDoubles_7 : decode cX5_tryDoubles 7 = .ok (.iload 4, 2) := by decide +kernel
theorem dX5_tryDoubles_9 : decode cX5_tryDoubles 9 = .ok (.iload_n 1, 1) := by decide +kernel
theorem dX5_tryDoubles_10 : decode cX5_tryDoubles 10 = .ok (.if_icmp .ge 91, 3) := by decide +kernel
theorem dX5_tryDoubles_13 : decode cX5_tryDoubles 13 = .ok (.aload_n 0, 1) := by decide +kernel
theorem dX5_tryDoubles_14 : decode cX5_tryDoubles 14 = .ok (.getfield 15, 3) := by decide +kernel
theorem dX5_tryDoubles_17 : decode cX5_tryDoubles 17 = .ok (.iload 4, 2) := by decide +kernel
theorem dX5_tryDoubles_19 : decode cX5_tryDoubles 19 = .ok (.iconst 1, 1) := by decide +kernel
theorem dX5_tryDoubles_20 : decode cX5_tryDoubles 20 = .ok (.iastore, 1) := by decide +kernel
theorem dX5_tryDoubles_21 : decode cX5_tryDoubles 21 = .ok (.aload_n 0, 1) := by decide +kernel
theorem dX5_tryDoubles_22 : decode cX5_tryDoubles 22 = .ok (.getfield 18, 3) := by decide +kernel
theorem dX5_tryDoubles_25 : decode cX5_tryDoubles 25 = .ok (.iload 4, 2) := by decide +kernel
theorem dX5_tryDoubles_27 : decode cX5_tryDoubles 27 = .ok (.iconst 4, 1) := by decide +kernel
theorem dX5_tryDoubles_28 : decode cX5_tryDoubles 28 = .ok (.aload_n 0, 1) := by decide +kernel
theorem dX5_tryDoubles_29 : decode cX5_tryDoubles 29 = .ok (.getfield 57, 3) := by decide +kernel
theorem dX5_tryDoubles_32 : decode cX5_tryDoubles 32 = .ok (.getfield 80, 3) := by decide +kernel
theorem dX5_tryDoubles_35 : decode cX5_tryDoubles 35 = .ok (.aload_n 0, 1) := by decide +kernel
theorem dX5_tryDoubles_36 : decode cX5_tryDoubles 36 = .ok (.getfield 9, 3) := by decide +kernel
theorem dX5_tryDoubles_39 : decode cX5_tryDoubles 39 = .ok (.iload 4, 2) := by decide +kernel
theorem dX5_tryDoubles_41 : decode cX5_tryDoubles 41 = .ok (.iconst 1, 1) := by decide +kernel
theorem dX5_tryDoubles_42 : decode cX5_tryDoubles 42 = .ok (.iadd, 1) := by decide +kernel
theorem dX5_tryDoubles_43 : decode cX5_tryDoubles 43 = .ok (.iaload, 1) := by decide +kernel
theorem dX5_tryDoubles_44 : decode cX5_tryDoubles 44 = .ok (.aaload, 1) := by decide +kernel
theorem dX5_tryDoubles_45 : decode cX5_tryDoubles 45 = .ok (.aload_n 0, 1) := by decide +kernel
theorem dX5_tryDoubles_46 : decode cX5_tryDoubles 46 = .ok (.getfield 9, 3) := by decide +kernel
theorem dX5_tryDoubles_49 : decode cX5_tryDoubles 49 = .ok (.iload 4, 2) := by decide +kernel
theorem dX5_tryDoubles_51 : decode cX5_tryDoubles 51 = .ok (.iaload, 1) := by decide +kernel
theorem dX5_tryDoubles_52 : decode cX5_tryDoubles 52 = .ok (.iaload, 1) := by decide +kernel
theorem dX5_tryDoubles_53 : decode cX5_tryDoubles 53 = .ok (.invokestatic 86, 3) := by decide +kernel
theorem dX5_tryDoubles_56 : decode cX5_tryDoubles 56 = .ok (.iastore, 1) := by decide +kernel
theorem dX5_tryDoubles_57 : decode cX5_tryDoubles 57 = .ok (.iload_n 2, 1) := by decide +kernel
theorem dX5_tryDoubles_58 : decode cX5_tryDoubles 58 = .ok (.aload_n 0, 1) := by decide +kernel
theorem dX5_tryDoubles_59 : decode cX5_tryDoubles 59 = .ok (.getfield 18, 3) := by decide +kernel
theorem dX5_tryDoubles_62 : decode cX5_tryDoubles 62 = .ok (.iload 4, 2) := by decide +kernel
theorem dX5_tryDoubles_64 : decode cX5_tryDoubles 64 = .ok (.iaload, 1) := by decide +kernel
theorem dX5_tryDoubles_65 : decode cX5_tryDoubles 65 = .ok (.imul, 1) := by decide +kernel
theorem dX5_tryDoubles_66 : decode cX5_tryDoubles 66 = .ok (.istore_n 2, 1) := by decide +kernel
theorem dX5_tryDoubles_67 : decode cX5_tryDoubles 67 = .ok (.iload_n 3, 1) := by decide +kernel
theorem dX5_tryDoubles_68 : decode cX5_tryDoubles 68 = .ok (.aload_n 0, 1) := by decide +kernel
theorem dX5_tryDoubles_69 : decode cX5_tryDoubles 69 = .ok (.getfield 53, 3) := by decide +kernel
theorem dX5_tryDoubles_72 : decode cX5_tryDoubles 72 = .ok (.getfield 92, 3) := by decide +kernel
theorem dX5_tryDoubles_75 : decode cX5_tryDoubles 75 = .ok (.aload_n 0, 1) := by decide +kernel
theorem dX5_tryDoubles_76 : decode cX5_tryDoubles 76 = .ok (.getfield 9, 3) := by decide +kernel
theorem dX5_tryDoubles_79 : decode cX5_tryDoubles 79 = .ok (.iload 4, 2) := by decide +kernel
theorem dX5_tryDoubles_81 : decode cX5_tryDoubles 81 = .ok (.iaload, 1) := by decide +kernel
theorem dX5_tryDoubles_82 : decode cX5_tryDoubles 82 = .ok (.aaload, 1) := by decide +kernel
theorem dX5_tryDoubles_83 : decode cX5_tryDoubles 83 = .ok (.aload_n 0, 1) := by decide +kernel
theorem dX5_tryDoubles_84 : decode cX5_tryDoubles 84 = .ok (.getfield 9, 3) := by decide +kernel
theorem dX5_tryDoubles_87 : decode cX5_tryDoubles 87 = .ok (.iload 4, 2) := by decide +kernel
theorem dX5_tryDoubles_89 : decode cX5_tryDoubles 89 = .ok (.iconst 1, 1) := by decide +kernel
theorem dX5_tryDoubles_90 : decode cX5_tryDoubles 90 = .ok (.iadd, 1) := by decide +kernel
theorem dX5_tryDoubles_91 : decode cX5_tryDoubles 91 = .ok (.iaload, 1) := by decide +kernel
theorem dX5_tryDoubles_92 : decode cX5_tryDoubles 92 = .ok (.iaload, 1) := by decide +kernel
theorem dX5_tryDoubles_93 : decode cX5_tryDoubles 93 = .ok (.iadd, 1) := by decide +kernel
theorem dX5_tryDoubles_94 : decode cX5_tryDoubles 94 = .ok (.istore_n 3, 1) := by decide +kernel
theorem dX5_tryDoubles_95 : decode cX5_tryDoubles 95 = .ok (.iinc 4 1, 3) := by decide +kernel
theorem dX5_tryDoubles_98 : decode cX5_tryDoubles 98 = .ok (.goto (-91), 3) := by decide +kernel
theorem dX5_tryDoubles_101 : decode cX5_tryDoubles 101 = .ok (.iconst 0, 1) := by decide +kernel
theorem dX5_tryDoubles_102 : decode cX5_tryDoubles 102 = .ok (.istore 4, 2) := by decide +kernel
theorem dX5_tryDoubles_104 : decode cX5_tryDoubles 104 = .ok (.iload 4, 2) := by decide +kernel
theorem dX5_tryDoubles_106 : decode cX5_tryDoubles 106 = .ok (.iload_n 2, 1) := by decide +kernel
theorem dX5_tryDoubles_107 : decode cX5_tryDoubles 107 = .ok (.if_icmp .ge 20, 3) := by decide +kernel
theorem dX5_tryDoubles_110 : decode cX5_tryDoubles 110 = .ok (.aload_n 0, 1) := by decide +kernel
theorem dX5_tryDoubles_111 : decode cX5_tryDoubles 111 = .ok (.iload_n 1, 1) := by decide +kernel
theorem dX5_tryDoubles_112 : decode cX5_tryDoubles 112 = .ok (.iload_n 3, 1) := by decide +kernel
theorem dX5_tryDoubles_113 : decode cX5_tryDoubles 113 = .ok (.invokevirtual 95, 3) := by decide +kernel
theorem dX5_tryDoubles_116 : decode cX5_tryDoubles 116 = .ok (.aload_n 0, 1) := by decide +kernel
theorem dX5_tryDoubles_117 : decode cX5_tryDoubles 117 = .ok (.iload_n 1, 1) := by decide +kernel
theorem dX5_tryDoubles_118 : decode cX5_tryDoubles 118 = .ok (.invokevirtual 99, 3) := by decide +kernel
theorem dX5_tryDoubles_121 : decode cX5_tryDoubles 121 = .ok (.iinc 4 1, 3) := by decide +kernel
theorem dX5_tryDoubles_124 : decode cX5_tryDoubles 124 = .ok (.goto (-20), 3) := by decide +kernel
theorem dX5_tryDoubles_127 : decode cX5_tryDoubles 127 = .ok (.return_, 1) := by decide +kernel
theorem dX5_weigh_0 : decode cX5_weigh 0 = .ok (.iconst 0, 1) := by decide +kernel
theorem dX5_weigh_1 : decode cX5_weigh 1 = .ok (.istore_n 3, 1) := by decide +kernel
theorem dX5_weigh_2 : decode cX5_weigh 2 = .ok (.lconst 1, 1) := by decide +kernel
theorem dX5_weigh_3 : decode cX5_weigh 3 = .ok (.lstore 4, 2) := by decide +kernel
theorem dX5_weigh_5 : decode cX5_weigh 5 = .ok (.lconst 1, 1) := by decide +kernel
theorem dX5_weigh_6 : decode cX5_weigh 6 = .ok (.lstore 6, 2) := by decide +kernel
theorem dX5_weigh_8 : decode cX5_weigh 8 = .ok (.iconst 0, 1) := by decide +kernel
theorem dX5_weigh_9 : decode cX5_weigh 9 = .ok (.istore 8, 2) := by decide +kernel
theorem dX5_weigh_11 : decode cX5_weigh 11 = .ok (.iload 8, 2) := by decide +kernel
theorem dX5_weigh_13 : decode cX5_weigh 13 = .ok (.iload_n 1, 1) := by decide +kernel
theorem dX5_weigh_14 : decode cX5_weigh 14 = .ok (.if_icmp .ge 72, 3) := by decide +kernel
theorem dX5_weigh_17 : decode cX5_weigh 17 = .ok (.iload_n 3, 1) := by decide +kernel
theorem dX5_weigh_18 : decode cX5_weigh 18 = .ok (.aload_n 0, 1) := by decide +kernel
theorem dX5_weigh_19 : decode cX5_weigh 19 = .ok (.getfield 15, 3) := by decide +kernel
theorem dX5_weigh_22 : decode cX5_weigh 22 = .ok (.iload 8, 2) := by decide +kernel
theorem dX5_weigh_24 : decode cX5_weigh 24 = .ok (.iaload, 1) := by decide +kernel
theorem dX5_weigh_25 : decode cX5_weigh 25 = .ok (.iadd, 1) := by decide +kernel
theorem dX5_weigh_26 : decode cX5_weigh 26 = .ok (.istore_n 3, 1) := by decide +kernel
theorem dX5_weigh_27 : decode cX5_weigh 27 = .ok (.lload 4, 2) := by decide +kernel
theorem dX5_weigh_29 : decode cX5_weigh 29 = .ok (.aload_n 0, 1) := by decide +kernel
theorem dX5_weigh_30 : decode cX5_weigh 30 = .ok (.getfield 53, 3) := by decide +kernel
theorem dX5_weigh_33 : decode cX5_weigh 33 = .ok (.aload_n 0, 1) := by decide +kernel
theorem dX5_weigh_34 : decode cX5_weigh 34 = .ok (.getfield 9, 3) := by decide +kernel
theorem dX5_weigh_37 : decode cX5_weigh 37 = .ok (.iload 8, 2) := by decide +kernel
theorem dX5_weigh_39 : decode cX5_weigh 39 = .ok (.iaload, 1) := by decide +kernel
theorem dX5_weigh_40 : decode cX5_weigh 40 = .ok (.aload_n 0, 1) := by decide +kernel
theorem dX5_weigh_41 : decode cX5_weigh 41 = .ok (.getfield 9, 3) := by decide +kernel
theorem dX5_weigh_44 : decode cX5_weigh 44 = .ok (.iload 8, 2) := by decide +kernel
theorem dX5_weigh_46 : decode cX5_weigh 46 = .ok (.iconst 1, 1) := by decide +kernel
theorem dX5_weigh_47 : decode cX5_weigh 47 = .ok (.iadd, 1) := by decide +kernel
theorem dX5_weigh_48 : decode cX5_weigh 48 = .ok (.iaload, 1) := by decide +kernel
theorem dX5_weigh_49 : decode cX5_weigh 49 = .ok (.aload_n 0, 1) := by decide +kernel
theorem dX5_weigh_50 : decode cX5_weigh 50 = .ok (.getfield 15, 3) := by decide +kernel
theorem dX5_weigh_53 : decode cX5_weigh 53 = .ok (.iload 8, 2) := by decide +kernel
theorem dX5_weigh_55 : decode cX5_weigh 55 = .ok (.iaload, 1) := by decide +kernel
theorem dX5_weigh_56 : decode cX5_weigh 56 = .ok (.invokevirtual 102, 3) := by decide +kernel
theorem dX5_weigh_59 : decode cX5_weigh 59 = .ok (.lmul, 1) := by decide +kernel
theorem dX5_weigh_60 : decode cX5_weigh 60 = .ok (.lstore 4, 2) := by decide +kernel
theorem dX5_weigh_62 : decode cX5_weigh 62 = .ok (.lload 6, 2) := by decide +kernel
theorem dX5_weigh_64 : decode cX5_weigh 64 = .ok (.ldc2_w 106, 3) := by decide +kernel
theorem dX5_weigh_67 : decode cX5_weigh 67 = .ok (.aload_n 0, 1) := by decide +kernel
theorem dX5_weigh_68 : decode cX5_weigh 68 = .ok (.getfield 15, 3) := by decide +kernel
theorem dX5_weigh_71 : decode cX5_weigh 71 = .ok (.iload 8, 2) := by decide +kernel
theorem dX5_weigh_73 : decode cX5_weigh 73 = .ok (.iaload, 1) := by decide +kernel
theorem dX5_weigh_74 : decode cX5_weigh 74 = .ok (.invokestatic 108, 3) := by decide +kernel
theorem dX5_weigh_77 : decode cX5_weigh 77 = .ok (.lmul, 1) := by decide +kernel
theorem dX5_weigh_78 : decode cX5_weigh 78 = .ok (.lstore 6, 2) := by decide +kernel
theorem dX5_weigh_80 : decode cX5_weigh 80 = .ok (.iinc 8 1, 3) := by decide +kernel
theorem dX5_weigh_83 : decode cX5_weigh 83 = .ok (.goto (-72), 3) := by decide +kernel
theorem dX5_weigh_86 : decode cX5_weigh 86 = .ok (.lload 4, 2) := by decide +kernel
theorem dX5_weigh_88 : decode cX5_weigh 88 = .ok (.aload_n 0, 1) := by decide +kernel
theorem dX5_weigh_89 : decode cX5_weigh 89 = .ok (.getfield 28, 3) := by decide +kernel
theorem dX5_weigh_92 : decode cX5_weigh 92 = .ok (.i2l, 1) := by decide +kernel
theorem dX5_weigh_93 : decode cX5_weigh 93 = .ok (.lmul, 1) := by decide +kernel
theorem dX5_weigh_94 : decode cX5_weigh 94 = .ok (.aload_n 0, 1) := by decide +kernel
theorem dX5_weigh_95 : decode cX5_weigh 95 = .ok (.getfield 25, 3) := by decide +kernel
theorem dX5_weigh_98 : decode cX5_weigh 98 = .ok (.i2l, 1) := by decide +kernel
theorem dX5_weigh_99 : decode cX5_weigh 99 = .ok (.lload 6, 2) := by decide +kernel
theorem dX5_weigh_101 : decode cX5_weigh 101 = .ok (.lmul, 1) := by decide +kernel
theorem dX5_weigh_102 : decode cX5_weigh 102 = .ok (.lcmp, 1) := by decide +kernel
theorem dX5_weigh_103 : decode cX5_weigh 103 = .ok (.ifCond .lt 12, 3) := by decide +kernel
theorem dX5_weigh_106 : decode cX5_weigh 106 = .ok (.aload_n 0, 1) := by decide +kernel
theorem dX5_weigh_107 : decode cX5_weigh 107 = .ok (.iload_n 3, 1) := by decide +kernel
theorem dX5_weigh_108 : decode cX5_weigh 108 = .ok (.iload_n 2, 1) := by decide +kernel
theorem dX5_weigh_109 : decode cX5_weigh 109 = .ok (.invokevirtual 112, 3) := by decide +kernel
theorem dX5_weigh_112 : decode cX5_weigh 112 = .ok (.ifCond .ne 4, 3) := by decide +kernel
theorem dX5_weigh_115 : decode cX5_weigh 115 = .ok (.return_, 1) := by decide +kernel
theorem dX5_weigh_116 : decode cX5_weigh 116 = .ok (.aload_n 0, 1) := by decide +kernel
theorem dX5_weigh_117 : decode cX5_weigh 117 = .ok (.iload_n 3, 1) := by decide +kernel
theorem dX5_weigh_118 : decode cX5_weigh 118 = .ok (.putfield 31, 3) := by decide +kernel
theorem dX5_weigh_121 : decode cX5_weigh 121 = .ok (.aload_n 0, 1) := by decide +kernel
theorem dX5_weigh_122 : decode cX5_weigh 122 = .ok (.iload_n 2, 1) := by decide +kernel
theorem dX5_weigh_123 : decode cX5_weigh 123 = .ok (.putfield 34, 3) := by decide +kernel
theorem dX5_weigh_126 : decode cX5_weigh 126 = .ok (.aload_n 0, 1) := by decide +kernel
theorem dX5_weigh_127 : decode cX5_weigh 127 = .ok (.iload_n 1, 1) := by decide +kernel
theorem dX5_weigh_128 : decode cX5_weigh 128 = .ok (.putfield 43, 3) := by decide +kernel
theorem dX5_weigh_131 : decode cX5_weigh 131 = .ok (.aload_n 0, 1) := by decide +kernel
theorem dX5_weigh_132 : decode cX5_weigh 132 = .ok (.lload 4, 2) := by decide +kernel
theorem dX5_weigh_134 : decode cX5_weigh 134 = .ok (.putfield 46, 3) := by decide +kernel
theorem dX5_weigh_137 : decode cX5_weigh 137 = .ok (.aload_n 0, 1) := by decide +kernel
theorem dX5_weigh_138 : decode cX5_weigh 138 = .ok (.lload 6, 2) := by decide +kernel
theorem dX5_weigh_140 : decode cX5_weigh 140 = .ok (.putfield 50, 3) := by decide +kernel
theorem dX5_weigh_143 : decode cX5_weigh 143 = .ok (.aload_n 0, 1) := by decide +kernel
theorem dX5_weigh_144 : decode cX5_weigh 144 = .ok (.getfield 9, 3) := by decide +kernel
theorem dX5_weigh_147 : decode cX5_weigh 147 = .ok (.iconst 0, 1) := by decide +kernel
theorem dX5_weigh_148 : decode cX5_weigh 148 = .ok (.aload_n 0, 1) := by decide +kernel
theorem dX5_weigh_149 : decode cX5_weigh 149 = .ok (.getfield 37, 3) := by decide +kernel
theorem dX5_weigh_152 : decode cX5_weigh 152 = .ok (.iconst 0, 1) := by decide +kernel
theorem dX5_weigh_153 : decode cX5_weigh 153 = .ok (.iload_n 1, 1) := by decide +kernel
theorem dX5_weigh_154 : decode cX5_weigh 154 = .ok (.iconst 1, 1) := by decide +kernel
theorem dX5_weigh_155 : decode cX5_weigh 155 = .ok (.iadd, 1) := by decide +kernel
theorem dX5_weigh_156 : decode cX5_weigh 156 = .ok (.invokestatic 115, 3) := by decide +kernel
theorem dX5_weigh_159 : decode cX5_weigh 159 = .ok (.aload_n 0, 1) := by decide +kernel
theorem dX5_weigh_160 : decode cX5_weigh 160 = .ok (.getfield 15, 3) := by decide +kernel
theorem dX5_weigh_163 : decode cX5_weigh 163 = .ok (.iconst 0, 1) := by decide +kernel
theorem dX5_weigh_164 : decode cX5_weigh 164 = .ok (.aload_n 0, 1) := by decide +kernel
theorem dX5_weigh_165 : decode cX5_weigh 165 = .ok (.getfield 40, 3) := by decide +kernel
theorem dX5_weigh_168 : decode cX5_weigh 168 = .ok (.iconst 0, 1) := by decide +kernel
theorem dX5_weigh_169 : decode cX5_weigh 169 = .ok (.iload_n 1, 1) := by decide +kernel
theorem dX5_weigh_170 : decode cX5_weigh 170 = .ok (.invokestatic 115, 3) := by decide +kernel
theorem dX5_weigh_173 : decode cX5_weigh 173 = .ok (.return_, 1) := by decide +kernel
theorem dX6_add_0 : decode cX6_add 0 = .ok (.aload_n 0, 1) := by decide +kernel
theorem dX6_add_1 : decode cX6_add 1 = .ok (.dup, 1) := by decide +kernel
theorem dX6_add_2 : decode cX6_add 2 = .ok (.getfield 9, 3) := by decide +kernel
theorem dX6_add_5 : decode cX6_add 5 = .ok (.iconst 1, 1) := by decide +kernel
theorem dX6_add_6 : decode cX6_add 6 = .ok (.iadd, 1) := by decide +kernel
theorem dX6_add_7 : decode cX6_add 7 = .ok (.putfield 9, 3) := by decide +kernel
theorem dX6_add_10 : decode cX6_add 10 = .ok (.aload_n 0, 1) := by decide +kernel
theorem dX6_add_11 : decode cX6_add 11 = .ok (.getfield 9, 3) := by decide +kernel
theorem dX6_add_14 : decode cX6_add 14 = .ok (.iconst 1, 1) := by decide +kernel
theorem dX6_add_15 : decode cX6_add 15 = .ok (.isub, 1) := by decide +kernel
theorem dX6_add_16 : decode cX6_add 16 = .ok (.ireturn, 1) := by decide +kernel
theorem dX6_fewestDoubles_0 : decode cX6_fewestDoubles 0 = .ok (.aload_n 0, 1) := by decide +kernel
theorem dX6_fewestDoubles_1 : decode cX6_fewestDoubles 1 = .ok (.iload_n 1, 1) := by decide +kernel
theorem dX6_fewestDoubles_2 : decode cX6_fewestDoubles 2 = .ok (.iload_n 2, 1) := by decide +kernel
theorem dX6_fewestDoubles_3 : decode cX6_fewestDoubles 3 = .ok (.invokevirtual 38, 3) := by decide +kernel
theorem dX6_fewestDoubles_6 : decode cX6_fewestDoubles 6 = .ok (.ifCond .ne 5, 3) := by decide +kernel
theorem dX6_fewestDoubles_9 : decode cX6_fewestDoubles 9 = .ok (.iconst (-1), 1) := by decide +kernel
theorem dX6_fewestDoubles_10 : decode cX6_fewestDoubles 10 = .ok (.ireturn, 1) := by decide +kernel
theorem dX6_fewestDoubles_11 : decode cX6_fewestDoubles 11 = .ok (.iconst 1, 1) := by decide +kernel
theorem dX6_fewestDoubles_12 : decode cX6_fewestDoubles 12 = .ok (.istore 5, 2) := by decide +kernel
theorem dX6_fewestDoubles_14 : decode cX6_fewestDoubles 14 = .ok (.iload 5, 2) := by decide +kernel
theorem dX6_fewestDoubles_16 : decode cX6_fewestDoubles 16 = .ok (.iconst 4, 1) := by decide +kernel
theorem dX6_fewestDoubles_17 : decode cX6_fewestDoubles 17 = .ok (.if_icmp .gt 39, 3) := by decide +kernel
theorem dX6_fewestDoubles_20 : decode cX6_fewestDoubles 20 = .ok (.aload_n 0, 1) := by decide +kernel
theorem dX6_fewestDoubles_21 : decode cX6_fewestDoubles 21 = .ok (.iload_n 1, 1) := by decide +kernel
theorem dX6_fewestDoubles_22 : decode cX6_fewestDoubles 22 = .ok (.iload_n 2, 1) := by decide +kernel
theorem dX6_fewestDoubles_23 : decode cX6_fewestDoubles 23 = .ok (.iload 5, 2) := by decide +kernel
theorem dX6_fewestDoubles_25 : decode cX6_fewestDoubles 25 = .ok (.invokevirtual 42, 3) := by decide +kernel
theorem dX6_fewestDoubles_28 : decode cX6_fewestDoubles 28 = .ok (.iload 4, 2) := by decide +kernel
theorem dX6_fewestDoubles_30 : decode cX6_fewestDoubles 30 = .ok (.i2l, 1) := by decide +kernel
theorem dX6_fewestDoubles_31 : decode cX6_fewestDoubles 31 = .ok (.lmul, 1) := by decide +kernel
theorem dX6_fewestDoubles_32 : decode cX6_fewestDoubles 32 = .ok (.iload_n 3, 1) := by decide +kernel
theorem dX6_fewestDoubles_33 : decode cX6_fewestDoubles 33 = .ok (.i2l, 1) := by decide +kernel
theorem dX6_fewestDoubles_34 : decode cX6_fewestDoubles 34 = .ok (.ldc2_w 32, 3) := by decide +kernel
theorem dX6_fewestDoubles_37 : decode cX6_fewestDoubles 37 = .ok (.iload 5, 2) := by decide +kernel
theorem dX6_fewestDoubles_39 : decode cX6_fewestDoubles 39 = .ok (.invokestatic 34, 3) := by decide +kernel
theorem dX6_fewestDoubles_42 : decode cX6_fewestDoubles 42 = .ok (.lmul, 1) := by decide +kernel
theorem dX6_fewestDoubles_43 : decode cX6_fewestDoubles 43 = .ok (.lcmp, 1) := by decide +kernel
theorem dX6_fewestDoubles_44 : decode cX6_fewestDoubles 44 = .ok (.ifCond .lt 6, 3) := by decide +kernel
theorem dX6_fewestDoubles_47 : decode cX6_fewestDoubles 47 = .ok (.iload 5, 2) := by decide +kernel
theorem dX6_fewestDoubles_49 : decode cX6_fewestDoubles 49 = .ok (.ireturn, 1) := by decide +kernel
theorem dX6_fewestDoubles_50 : decode cX6_fewestDoubles 50 = .ok (.iinc 5 1, 3) := by decide +kernel
theorem dX6_fewestDoubles_53 : decode cX6_fewestDoubles 53 = .ok (.goto (-39), 3) := by decide +kernel
theorem dX6_fewestDoubles_56 : decode cX6_fewestDoubles 56 = .ok (.iconst (-1), 1) := by decide +kernel
theorem dX6_fewestDoubles_57 : decode cX6_fewestDoubles 57 = .ok (.ireturn, 1) := by decide +kernel
theorem dX6_isRoad_0 : decode cX6_isRoad 0 = .ok (.aload_n 0, 1) := by decide +kernel
theorem dX6_isRoad_1 : decode cX6_isRoad 1 = .ok (.getfield 17, 3) := by decide +kernel
theorem dX6_isRoad_4 : decode cX6_isRoad 4 = .ok (.iload_n 1, 1) := by decide +kernel
theorem dX6_isRoad_5 : decode cX6_isRoad 5 = .ok (.aaload, 1) := by decide +kernel
theorem dX6_isRoad_6 : decode cX6_isRoad 6 = .ok (.iload_n 2, 1) := by decide +kernel
theorem dX6_isRoad_7 : decode cX6_isRoad 7 = .ok (.iaload, 1) := by decide +kernel
theorem dX6_isRoad_8 : decode cX6_isRoad 8 = .ok (.ifCond .le 7, 3) := by decide +kernel
theorem dX6_isRoad_11 : decode cX6_isRoad 11 = .ok (.iconst 1, 1) := by decide +kernel
theorem dX6_isRoad_12 : decode cX6_isRoad 12 = .ok (.goto 4, 3) := by decide +kernel
theorem dX6_isRoad_15 : decode cX6_isRoad 15 = .ok (.iconst 0, 1) := by decide +kernel
theorem dX6_isRoad_16 : decode cX6_isRoad 16 = .ok (.ireturn, 1) := by decide +kernel
theorem dX6_setRoad_0 : decode cX6_setRoad 0 = .ok (.aload_n 0, 1) := by decide +kernel
theorem dX6_setRoad_1 : decode cX6_setRoad 1 = .ok (.getfield 17, 3) := by decide +kernel
theorem dX6_setRoad_4 : decode cX6_setRoad 4 = .ok (.iload_n 1, 1) := by decide +kernel
theorem dX6_setRoad_5 : decode cX6_setRoad 5 = .ok (.aaload, 1) := by decide +kernel
theorem dX6_setRoad_6 : decode cX6_setRoad 6 = .ok (.iload_n 2, 1) := by decide +kernel
theorem dX6_setRoad_7 : decode cX6_setRoad 7 = .ok (.iload_n 3, 1) := by decide +kernel
theorem dX6_setRoad_8 : decode cX6_setRoad 8 = .ok (.iastore, 1) := by decide +kernel
theorem dX6_setRoad_9 : decode cX6_setRoad 9 = .ok (.aload_n 0, 1) := by decide +kernel
theorem dX6_setRoad_10 : decode cX6_setRoad 10 = .ok (.getfield 17, 3) := by decide +kernel
theorem dX6_setRoad_13 : decode cX6_setRoad 13 = .ok (.iload_n 2, 1) := by decide +kernel
theorem dX6_setRoad_14 : decode cX6_setRoad 14 = .ok (.aaload, 1) := by decide +kernel
theorem dX6_setRoad_15 : decode cX6_setRoad 15 = .ok (.iload_n 1, 1) := by decide +kernel
theorem dX6_setRoad_16 : decode cX6_setRoad 16 = .ok (.iload_n 3, 1) := by decide +kernel
theorem dX6_setRoad_17 : decode cX6_setRoad 17 = .ok (.iastore, 1) := by decide +kernel
theorem dX6_setRoad_18 : decode cX6_setRoad 18 = .ok (.aload_n 0, 1) := by decide +kernel
theorem dX6_setRoad_19 : decode cX6_setRoad 19 = .ok (.getfield 20, 3) := by decide +kernel
theorem dX6_setRoad_22 : decode cX6_setRoad 22 = .ok (.iload_n 1, 1) := by decide +kernel
theorem dX6_setRoad_23 : decode cX6_setRoad 23 = .ok (.aaload, 1) := by decide +kernel
theorem dX6_setRoad_24 : decode cX6_setRoad 24 = .ok (.iload_n 2, 1) := by decide +kernel
theorem dX6_setRoad_25 : decode cX6_setRoad 25 = .ok (.iload 4, 2) := by decide +kernel
theorem dX6_setRoad_27 : decode cX6_setRoad 27 = .ok (.iastore, 1) := by decide +kernel
theorem dX6_setRoad_28 : decode cX6_setRoad 28 = .ok (.aload_n 0, 1) := by decide +kernel
theorem dX6_setRoad_29 : decode cX6_setRoad 29 = .ok (.getfield 20, 3) := by decide +kernel
theorem dX6_setRoad_32 : decode cX6_setRoad 32 = .ok (.iload_n 2, 1) := by decide +kernel
theorem dX6_setRoad_33 : decode cX6_setRoad 33 = .ok (.aaload, 1) := by decide +kernel
theorem dX6_setRoad_34 : decode cX6_setRoad 34 = .ok (.iload_n 1, 1) := by decide +kernel
theorem dX6_setRoad_35 : decode cX6_setRoad 35 = .ok (.iload 4, 2) := by decide +kernel
theorem dX6_setRoad_37 : decode cX6_setRoad 37 = .ok (.iastore, 1) := by decide +kernel
theorem dX6_setRoad_38 : decode cX6_setRoad 38 = .ok (.return_, 1) := by decide +kernel
theorem dX6_sureTop_0 : decode cX6_sureTop 0 = .ok (.ldc2_w 32, 3) := by decide +kernel
theorem dX6_sureTop_3 : decode cX6_sureTop 3 = .ok (.iload_n 3, 1) := by decide +kernel
theorem dX6_sureTop_4 : decode cX6_sureTop 4 = .ok (.invokestatic 34, 3) := by decide +kernel
theorem dX6_sureTop_7 : decode cX6_sureTop 7 = .ok (.aload_n 0, 1) := by decide +kernel
theorem dX6_sureTop_8 : decode cX6_sureTop 8 = .ok (.getfield 20, 3) := by decide +kernel
theorem dX6_sureTop_11 : decode cX6_sureTop 11 = .ok (.iload_n 1, 1) := by decide +kernel
theorem dX6_sureTop_12 : decode cX6_sureTop 12 = .ok (.aaload, 1) := by decide +kernel
theorem dX6_sureTop_13 : decode cX6_sureTop 13 = .ok (.iload_n 2, 1) := by decide +kernel
theorem dX6_sureTop_14 : decode cX6_sureTop 14 = .ok (.iaload, 1) := by decide +kernel
theorem dX6_sureTop_15 : decode cX6_sureTop 15 = .ok (.i2l, 1) := by decide +kernel
theorem dX6_sureTop_16 : decode cX6_sureTop 16 = .ok (.iload_n 3, 1) := by decide +kernel
theorem dX6_sureTop_17 : decode cX6_sureTop 17 = .ok (.invokestatic 34, 3) := by decide +kernel
theorem dX6_sureTop_20 : decode cX6_sureTop 20 = .ok (.lsub, 1) := by decide +kernel
theorem dX6_sureTop_21 : decode cX6_sureTop 21 = .ok (.lreturn, 1) := by decide +kernel
theorem dX7_beginsWithBytes_0 : decode cX7_beginsWithBytes 0 = .ok (.iconst 0, 1) := by decide +kernel
theorem dX7_beginsWithBytes_1 : decode cX7_beginsWithBytes 1 = .ok (.istore_n 3, 1) := by decide +kernel
theorem dX7_beginsWithBytes_2 : decode cX7_beginsWithBytes 2 = .ok (.iload_n 3, 1) := by decide +kernel
theorem dX7_beginsWithBytes_3 : decode cX7_beginsWithBytes 3 = .ok (.iload_n 2, 1) := by decide +kernel
theorem dX7_beginsWithBytes_4 : decode cX7_beginsWithBytes 4 = .ok (.if_icmp .ge 39, 3) := by decide +kernel
theorem dX7_beginsWithBytes_7 : decode cX7_beginsWithBytes 7 = .ok (.aload_n 0, 1) := by decide +kernel
theorem dX7_beginsWithBytes_8 : decode cX7_beginsWithBytes 8 = .ok (.getfield 20, 3) := by decide +kernel
theorem dX7_beginsWithBytes_11 : decode cX7_beginsWithBytes 11 = .ok (.iload_n 1, 1) := by decide +kernel
theorem dX7_beginsWithBytes_12 : decode cX7_beginsWithBytes 12 = .ok (.aaload, 1) := by decide +kernel
theorem dX7_beginsWithBytes_13 : decode cX7_beginsWithBytes 13 = .ok (.iload_n 3, 1) := by decide +kernel
theorem dX7_beginsWithBytes_14 : decode cX7_beginsWithBytes 14 = .ok (.laload, 1) := by decide +kernel
theorem dX7_beginsWithBytes_15 : decode cX7_beginsWithBytes 15 = .ok (.lconst 1, 1) := by decide +kernel
theorem dX7_beginsWithBytes_16 : decode cX7_beginsWithBytes 16 = .ok (.lcmp, 1) := by decide +kernel
theorem dX7_beginsWithBytes_17 : decode cX7_beginsWithBytes 17 = .ok (.ifCond .lt 18, 3) := by decide +kernel
theorem dX7_beginsWithBytes_20 : decode cX7_beginsWithBytes 20 = .ok (.aload_n 0, 1) := by decide +kernel
theorem dX7_beginsWithBytes_21 : decode cX7_beginsWithBytes 21 = .ok (.getfield 20, 3) := by decide +kernel
theorem dX7_beginsWithBytes_24 : decode cX7_beginsWithBytes 24 = .ok (.iload_n 1, 1) := by decide +kernel
theorem dX7_beginsWithBytes_25 : decode cX7_beginsWithBytes 25 = .ok (.aaload, 1) := by decide +kernel
theorem dX7_beginsWithBytes_26 : decode cX7_beginsWithBytes 26 = .ok (.iload_n 3, 1) := by decide +kernel
theorem dX7_beginsWithBytes_27 : decode cX7_beginsWithBytes 27 = .ok (.laload, 1) := by decide +kernel
theorem dX7_beginsWithBytes_28 : decode cX7_beginsWithBytes 28 = .ok (.ldc2_w 36, 3) := by decide +kernel
theorem dX7_beginsWithBytes_31 : decode cX7_beginsWithBytes 31 = .ok (.lcmp, 1) := by decide +kernel
theorem dX7_beginsWithBytes_32 : decode cX7_beginsWithBytes 32 = .ok (.ifCond .le 5, 3) := by decide +kernel
theorem dX7_beginsWithBytes_35 : decode cX7_beginsWithBytes 35 = .ok (.iconst 0, 1) := by decide +kernel
theorem dX7_beginsWithBytes_36 : decode cX7_beginsWithBytes 36 = .ok (.ireturn, 1) := by decide +kernel
theorem dX7_beginsWithBytes_37 : decode cX7_beginsWithBytes 37 = .ok (.iinc 3 1, 3) := by decide +kernel
theorem dX7_beginsWithBytes_40 : decode cX7_beginsWithBytes 40 = .ok (.goto (-38), 3) := by decide +kernel
theorem dX7_beginsWithBytes_43 : decode cX7_beginsWithBytes 43 = .ok (.iconst 1, 1) := by decide +kernel
theorem dX7_beginsWithBytes_44 : decode cX7_beginsWithBytes 44 = .ok (.ireturn, 1) := by decide +kernel
theorem dX7_cut_0 : decode cX7_cut 0 = .ok (.iload_n 2, 1) := by decide +kernel
theorem dX7_cut_1 : decode cX7_cut 1 = .ok (.tableswitch 41 0 2 #[27, 32, 37], 27) := by decide +kernel
theorem dX7_cut_28 : decode cX7_cut 28 = .ok (.lload_n 0, 1) := by decide +kernel
theorem dX7_cut_29 : decode cX7_cut 29 = .ok (.l2i, 1) := by decide +kernel
theorem dX7_cut_30 : decode cX7_cut 30 = .ok (.i2b, 1) := by decide +kernel
theorem dX7_cut_31 : decode cX7_cut 31 = .ok (.i2l, 1) := by decide +kernel
theorem dX7_cut_32 : decode cX7_cut 32 = .ok (.lreturn, 1) := by decide +kernel
theorem dX7_cut_33 : decode cX7_cut 33 = .ok (.lload_n 0, 1) := by decide +kernel
theorem dX7_cut_34 : decode cX7_cut 34 = .ok (.l2i, 1) := by decide +kernel
theorem dX7_cut_35 : decode cX7_cut 35 = .ok (.i2s, 1) := by decide +kernel
theorem dX7_cut_36 : decode cX7_cut 36 = .ok (.i2l, 1) := by decide +kernel
theorem dX7_cut_37 : decode cX7_cut 37 = .ok (.lreturn, 1) := by decide +kernel
theorem dX7_cut_38 : decode cX7_cut 38 = .ok (.lload_n 0, 1) := by decide +kernel
theorem dX7_cut_39 : decode cX7_cut 39 = .ok (.l2i, 1) := by decide +kernel
theorem dX7_cut_40 : decode cX7_cut 40 = .ok (.i2l, 1) := by decide +kernel
theorem dX7_cut_41 : decode cX7_cut 41 = .ok (.lreturn, 1) := by decide +kernel
theorem dX7_cut_42 : decode cX7_cut 42 = .ok (.lload_n 0, 1) := by decide +kernel
theorem dX7_cut_43 : decode cX7_cut 43 = .ok (.lreturn, 1) := by decide +kernel
theorem dX7_holds_0 : decode cX7_holds 0 = .ok (.iload_n 3, 1) := by decide +kernel
theorem dX7_holds_1 : decode cX7_holds 1 = .ok (.aload_n 0, 1) := by decide +kernel
theorem dX7_holds_2 : decode cX7_holds 2 = .ok (.getfield 15, 3) := by decide +kernel
theorem dX7_holds_5 : decode cX7_holds 5 = .ok (.iload_n 1, 1) := by decide +kernel
theorem dX7_holds_6 : decode cX7_holds 6 = .ok (.iaload, 1) := by decide +kernel
theorem dX7_holds_7 : decode cX7_holds 7 = .ok (.if_icmp .gt 19, 3) := by decide +kernel
theorem dX7_holds_10 : decode cX7_holds 10 = .ok (.iload_n 2, 1) := by decide +kernel
theorem dX7_holds_11 : decode cX7_holds 11 = .ok (.aload_n 0, 1) := by decide +kernel
theorem dX7_holds_12 : decode cX7_holds 12 = .ok (.getfield 15, 3) := by decide +kernel
theorem dX7_holds_15 : decode cX7_holds 15 = .ok (.iload_n 1, 1) := by decide +kernel
theorem dX7_holds_16 : decode cX7_holds 16 = .ok (.iaload, 1) := by decide +kernel
theorem dX7_holds_17 : decode cX7_holds 17 = .ok (.iload_n 3, 1) := by decide +kernel
theorem dX7_holds_18 : decode cX7_holds 18 = .ok (.isub, 1) := by decide +kernel
theorem dX7_holds_19 : decode cX7_holds 19 = .ok (.if_icmp .gt 7, 3) := by decide +kernel
theorem dX7_holds_22 : decode cX7_holds 22 = .ok (.iconst 1, 1) := by decide +kernel
theorem dX7_holds_23 : decode cX7_holds 23 = .ok (.goto 4, 3) := by decide +kernel
theorem dX7_holds_26 : decode cX7_holds 26 = .ok (.iconst 0, 1) := by decide +kernel
theorem dX7_holds_27 : decode cX7_holds 27 = .ok (.ireturn, 1) := by decide +kernel
theorem dX7_isMissing_0 : decode cX7_isMissing 0 = .ok (.aload_n 0, 1) := by decide +kernel
theorem dX7_isMissing_1 : decode cX7_isMissing 1 = .ok (.getfield 9, 3) := by decide +kernel
theorem dX7_isMissing_4 : decode cX7_isMissing 4 = .ok (.iload_n 1, 1) := by decide +kernel
theorem dX7_isMissing_5 : decode cX7_isMissing 5 = .ok (.iaload, 1) := by decide +kernel
theorem dX7_isMissing_6 : decode cX7_isMissing 6 = .ok (.iconst (-1), 1) := by decide +kernel
theorem dX7_isMissing_7 : decode cX7_isMissing 7 = .ok (.if_icmp .ne 7, 3) := by decide +kernel
theorem dX7_isMissing_10 : decode cX7_isMissing 10 = .ok (.iconst 1, 1) := by decide +kernel
theorem dX7_isMissing_11 : decode cX7_isMissing 11 = .ok (.goto 4, 3) := by decide +kernel
theorem dX7_isMissing_14 : decode cX7_isMissing 14 = .ok (.iconst 0, 1) := by decide +kernel
theorem dX7_isMissing_15 : decode cX7_isMissing 15 = .ok (.ireturn, 1) := by decide +kernel
theorem dX7_make_0 : decode cX7_make 0 = .ok (.aload_n 0, 1) := by decide +kernel
theorem dX7_make_1 : decode cX7_make 1 = .ok (.getfield 9, 3) := by decide +kernel
theorem dX7_make_4 : decode cX7_make 4 = .ok (.iload_n 1, 1) := by decide +kernel
theorem dX7_make_5 : decode cX7_make 5 = .ok (.iload_n 2, 1) := by decide +kernel
theorem dX7_make_6 : decode cX7_make 6 = .ok (.iastore, 1) := by decide +kernel
theorem dX7_make_7 : decode cX7_make 7 = .ok (.aload_n 0, 1) := by decide +kernel
theorem dX7_make_8 : decode cX7_make 8 = .ok (.getfield 15, 3) := by decide +kernel
theorem dX7_make_11 : decode cX7_make 11 = .ok (.iload_n 1, 1) := by decide +kernel
theorem dX7_make_12 : decode cX7_make 12 = .ok (.iload_n 3, 1) := by decide +kernel
theorem dX7_make_13 : decode cX7_make 13 = .ok (.iastore, 1) := by decide +kernel
theorem dX7_make_14 : decode cX7_make 14 = .ok (.aload_n 0, 1) := by decide +kernel
theorem dX7_make_15 : decode cX7_make 15 = .ok (.getfield 20, 3) := by decide +kernel
theorem dX7_make_18 : decode cX7_make 18 = .ok (.iload_n 1, 1) := by decide +kernel
theorem dX7_make_19 : decode cX7_make 19 = .ok (.aaload, 1) := by decide +kernel
theorem dX7_make_20 : decode cX7_make 20 = .ok (.lconst 0, 1) := by decide +kernel
theorem dX7_make_21 : decode cX7_make 21 = .ok (.invokestatic 29, 3) := by decide +kernel
theorem dX7_make_24 : decode cX7_make 24 = .ok (.return_, 1) := by decide +kernel
theorem dX7_put_0 : decode cX7_put 0 = .ok (.aload_n 0, 1) := by decide +kernel
theorem dX7_put_1 : decode cX7_put 1 = .ok (.getfield 20, 3) := by decide +kernel
theorem dX7_put_4 : decode cX7_put 4 = .ok (.iload_n 1, 1) := by decide +kernel
theorem dX7_put_5 : decode cX7_put 5 = .ok (.aaload, 1) := by decide +kernel
theorem dX7_put_6 : decode cX7_put 6 = .ok (.iload_n 2, 1) := by decide +kernel
theorem dX7_put_7 : decode cX7_put 7 = .ok (.lload_n 3, 1) := by decide +kernel
theorem dX7_put_8 : decode cX7_put 8 = .ok (.aload_n 0, 1) := by decide +kernel
theorem dX7_put_9 : decode cX7_put 9 = .ok (.getfield 9, 3) := by decide +kernel
theorem dX7_put_12 : decode cX7_put 12 = .ok (.iload_n 1, 1) := by decide +kernel
theorem dX7_put_13 : decode cX7_put 13 = .ok (.iaload, 1) := by decide +kernel
theorem dX7_put_14 : decode cX7_put 14 = .ok (.invokestatic 32, 3) := by decide +kernel
theorem dX7_put_17 : decode cX7_put 17 = .ok (.lastore, 1) := by decide +kernel
theorem dX7_put_18 : decode cX7_put 18 = .ok (.return_, 1) := by decide +kernel
theorem dX8_areTwoTowns_0 : decode cX8_areTwoTowns 0 = .ok (.aload_n 0, 1) := by decide +kernel
theorem dX8_areTwoTowns_1 : decode cX8_areTwoTowns 1 = .ok (.iload_n 1, 1) := by decide +kernel
theorem dX8_areTwoTowns_2 : decode cX8_areTwoTowns 2 = .ok (.invokevirtual 167, 3) := by decide +kernel
theorem dX8_areTwoTowns_5 : decode cX8_areTwoTowns 5 = .ok (.ifCond .eq 20, 3) := by decide +kernel
theorem dX8_areTwoTowns_8 : decode cX8_areTwoTowns 8 = .ok (.aload_n 0, 1) := by decide +kernel
theorem dX8_areTwoTowns_9 : decode cX8_areTwoTowns 9 = .ok (.iload_n 2, 1) := by decide +kernel
theorem dX8_areTwoTowns_10 : decode cX8_areTwoTowns 10 = .ok (.invokevirtual 167, 3) := by decide +kernel
theorem dX8_areTwoTowns_13 : decode cX8_areTwoTowns 13 = .ok (.ifCond .eq 12, 3) := by decide +kernel
theorem dX8_areTwoTowns_16 : decode cX8_areTwoTowns 16 = .ok (.iload_n 1, 1) := by decide +kernel
theorem dX8_areTwoTowns_17 : decode cX8_areTwoTowns 17 = .ok (.iload_n 2, 1) := by decide +kernel
theorem dX8_areTwoTowns_18 : decode cX8_areTwoTowns 18 = .ok (.if_icmp .eq 7, 3) := by decide +kernel
theorem dX8_areTwoTowns_21 : decode cX8_areTwoTowns 21 = .ok (.iconst 1, 1) := by decide +kernel
theorem dX8_areTwoTowns_22 : decode cX8_areTwoTowns 22 = .ok (.goto 4, 3) := by decide +kernel
theorem dX8_areTwoTowns_25 : decode cX8_areTwoTowns 25 = .ok (.iconst 0, 1) := by decide +kernel
theorem dX8_areTwoTowns_26 : decode cX8_areTwoTowns 26 = .ok (.ireturn, 1) := by decide +kernel
theorem dX8_bird_0 : decode cX8_bird 0 = .ok (.aload_n 0, 1) := by decide +kernel
theorem dX8_bird_1 : decode cX8_bird 1 = .ok (.aload_n 0, 1) := by decide +kernel
theorem dX8_bird_2 : decode cX8_bird 2 = .ok (.iload_n 1, 1) := by decide +kernel
theorem dX8_bird_3 : decode cX8_bird 3 = .ok (.invokevirtual 144, 3) := by decide +kernel
theorem dX8_bird_6 : decode cX8_bird 6 = .ok (.putfield 67, 3) := by decide +kernel
theorem dX8_bird_9 : decode cX8_bird 9 = .ok (.aload_n 0, 1) := by decide +kernel
theorem dX8_bird_10 : decode cX8_bird 10 = .ok (.getfield 67, 3) := by decide +kernel
theorem dX8_bird_13 : decode cX8_bird 13 = .ok (.ifCond .eq 5, 3) := by decide +kernel
theorem dX8_bird_16 : decode cX8_bird 16 = .ok (.iconst (-1), 1) := by decide +kernel
theorem dX8_bird_17 : decode cX8_bird 17 = .ok (.ireturn, 1) := by decide +kernel
theorem dX8_bird_18 : decode cX8_bird 18 = .ok (.aload_n 0, 1) := by decide +kernel
theorem dX8_bird_19 : decode cX8_bird 19 = .ok (.getfield 33, 3) := by decide +kernel
theorem dX8_bird_22 : decode cX8_bird 22 = .ok (.iload_n 1, 1) := by decide +kernel
theorem dX8_bird_23 : decode cX8_bird 23 = .ok (.invokevirtual 148, 3) := by decide +kernel
theorem dX8_bird_26 : decode cX8_bird 26 = .ok (.ireturn, 1) := by decide +kernel
theorem dX8_birdFault_0 : decode cX8_birdFault 0 = .ok (.aload_n 0, 1) := by decide +kernel
theorem dX8_birdFault_1 : decode cX8_birdFault 1 = .ok (.iload_n 1, 1) := by decide +kernel
theorem dX8_birdFault_2 : decode cX8_birdFault 2 = .ok (.invokevirtual 167, 3) := by decide +kernel
theorem dX8_birdFault_5 : decode cX8_birdFault 5 = .ok (.ifCond .ne 5, 3) := by decide +kernel
theorem dX8_birdFault_8 : decode cX8_birdFault 8 = .ok (.iconst 1, 1) := by decide +kernel
theorem dX8_birdFault_9 : decode cX8_birdFault 9 = .ok (.ireturn, 1) := by decide +kernel
theorem dX8_birdFault_10 : decode cX8_birdFault 10 = .ok (.aload_n 0, 1) := by decide +kernel
theorem dX8_birdFault_11 : decode cX8_birdFault 11 = .ok (.getfield 33, 3) := by decide +kernel
theorem dX8_birdFault_14 : decode cX8_birdFault 14 = .ok (.getfield 314, 3) := by decide +kernel
theorem dX8_birdFault_17 : decode cX8_birdFault 17 = .ok (.bipush 60, 2) := by decide +kernel
theorem dX8_birdFault_19 : decode cX8_birdFault 19 = .ok (.if_icmp .ge 7, 3) := by decide +kernel
theorem dX8_birdFault_22 : decode cX8_birdFault 22 = .ok (.iconst 0, 1) := by decide +kernel
theorem dX8_birdFault_23 : decode cX8_birdFault 23 = .ok (.goto 4, 3) := by decide +kernel
theorem dX8_birdFault_26 : decode cX8_birdFault 26 = .ok (.iconst 5, 1) := by decide +kernel
theorem dX8_birdFault_27 : decode cX8_birdFault 27 = .ok (.ireturn, 1) := by decide +kernel
theorem dX8_bottom_0 : decode cX8_bottom 0 = .ok (.aload_n 0, 1) := by decide +kernel
theorem dX8_bottom_1 : decode cX8_bottom 1 = .ok (.getfield 10, 3) := by decide +kernel
theorem dX8_bottom_4 : decode cX8_bottom 4 = .ok (.getfield 78, 3) := by decide +kernel
theorem dX8_bottom_7 : decode cX8_bottom 7 = .ok (.lreturn, 1) := by decide +kernel
theorem dX8_carried_0 : decode cX8_carried 0 = .ok (.aload_n 0, 1) := by decide +kernel
theorem dX8_carried_1 : decode cX8_carried 1 = .ok (.aload_n 0, 1) := by decide +kernel
theorem dX8_carried_2 : decode cX8_carried 2 = .ok (.iload_n 1, 1) := by decide +kernel
theorem dX8_carried_3 : decode cX8_carried 3 = .ok (.iload_n 2, 1) := by decide +kernel
theorem dX8_carried_4 : decode cX8_carried 4 = .ok (.invokevirtual 136, 3) := by decide +kernel
theorem dX8_carried_7 : decode cX8_carried 7 = .ok (.invokestatic 89, 3) := by decide +kernel
theorem dX8_carried_10 : decode cX8_carried 10 = .ok (.putfield 67, 3) := by decide +kernel
theorem dX8_carried_13 : decode cX8_carried 13 = .ok (.aload_n 0, 1) := by decide +kernel
theorem dX8_carried_14 : decode cX8_carried 14 = .ok (.getfield 67, 3) := by decide +kernel
theorem dX8_carried_17 : decode cX8_carried 17 = .ok (.ifCond .eq 5, 3) := by decide +kernel
theorem dX8_carried_20 : decode cX8_carried 20 = .ok (.iconst (-1), 1) := by decide +kernel
theorem dX8_carried_21 : decode cX8_carried 21 = .ok (.ireturn, 1) := by decide +kernel
theorem dX8_carried_22 : decode cX8_carried 22 = .ok (.aload_n 0, 1) := by decide +kernel
theorem dX8_carried_23 : decode cX8_carried 23 = .ok (.getfield 49, 3) := by decide +kernel
theorem dX8_carried_26 : decode cX8_carried 26 = .ok (.iload_n 1, 1) := by decide +kernel
theorem dX8_carried_27 : decode cX8_carried 27 = .ok (.invokevirtual 224, 3) := by decide +kernel
theorem dX8_carried_30 : decode cX8_carried 30 = .ok (.aload_n 0, 1) := by decide +kernel
theorem dX8_carried_31 : decode cX8_carried 31 = .ok (.getfield 49, 3) := by decide +kernel
theorem dX8_carried_34 : decode cX8_carried 34 = .ok (.getfield 230, 3) := by decide +kernel
theorem dX8_carried_37 : decode cX8_carried 37 = .ok (.iload_n 2, 1) := by decide +kernel
theorem dX8_carried_38 : decode cX8_carried 38 = .ok (.iaload, 1) := by decide +kernel
theorem dX8_carried_39 : decode cX8_carried 39 = .ok (.ireturn, 1) := by decide +kernel
theorem dX8_carry_0 : decode cX8_carry 0 = .ok (.aload_n 0, 1) := by decide +kernel
theorem dX8_carry_1 : decode cX8_carry 1 = .ok (.aload_n 0, 1) := by decide +kernel
theorem dX8_carry_2 : decode cX8_carry 2 = .ok (.iload_n 1, 1) := by decide +kernel
theorem dX8_carry_3 : decode cX8_carry 3 = .ok (.iload_n 2, 1) := by decide +kernel
theorem dX8_carry_4 : decode cX8_carry 4 = .ok (.invokevirtual 150, 3) := by decide +kernel
theorem dX8_carry_7 : decode cX8_carry 7 = .ok (.putfield 67, 3) := by decide +kernel
theorem dX8_carry_10 : decode cX8_carry 10 = .ok (.aload_n 0, 1) := by decide +kernel
theorem dX8_carry_11 : decode cX8_carry 11 = .ok (.getfield 67, 3) := by decide +kernel
theorem dX8_carry_14 : decode cX8_carry 14 = .ok (.ifCond .eq 5, 3) := by decide +kernel
theorem dX8_carry_17 : decode cX8_carry 17 = .ok (.iconst 0, 1) := by decide +kernel
theorem dX8_carry_18 : decode cX8_carry 18 = .ok (.ireturn, 1) := by decide +kernel
theorem dX8_carry_19 : decode cX8_carry 19 = .ok (.aload_n 0, 1) := by decide +kernel
theorem dX8_carry_20 : decode cX8_carry 20 = .ok (.getfield 33, 3) := by decide +kernel
theorem dX8_carry_23 : decode cX8_carry 23 = .ok (.iload_n 1, 1) := by decide +kernel
theorem dX8_carry_24 : decode cX8_carry 24 = .ok (.invokevirtual 153, 3) := by decide +kernel
theorem dX8_carry_27 : decode cX8_carry 27 = .ok (.aload_n 0, 1) := by decide +kernel
theorem dX8_carry_28 : decode cX8_carry 28 = .ok (.getfield 33, 3) := by decide +kernel
theorem dX8_carry_31 : decode cX8_carry 31 = .ok (.iload_n 1, 1) := by decide +kernel
theorem dX8_carry_32 : decode cX8_carry 32 = .ok (.iload_n 2, 1) := by decide +kernel
theorem dX8_carry_33 : decode cX8_carry 33 = .ok (.invokevirtual 157, 3) := by decide +kernel
theorem dX8_carry_36 : decode cX8_carry 36 = .ok (.iconst 1, 1) := by decide +kernel
theorem dX8_carry_37 : decode cX8_carry 37 = .ok (.ireturn, 1) := by decide +kernel
theorem dX8_carryFault_0 : decode cX8_carryFault 0 = .ok (.aload_n 0, 1) := by decide +kernel
theorem dX8_carryFault_1 : decode cX8_carryFault 1 = .ok (.iload_n 1, 1) := by decide +kernel
theorem dX8_carryFault_2 : decode cX8_carryFault 2 = .ok (.invokevirtual 161, 3) := by decide +kernel
theorem dX8_carryFault_5 : decode cX8_carryFault 5 = .ok (.ifCond .eq 11, 3) := by decide +kernel
theorem dX8_carryFault_8 : decode cX8_carryFault 8 = .ok (.aload_n 0, 1) := by decide +kernel
theorem dX8_carryFault_9 : decode cX8_carryFault 9 = .ok (.iload_n 2, 1) := by decide +kernel
theorem dX8_carryFault_10 : decode cX8_carryFault 10 = .ok (.invokevirtual 167, 3) := by decide +kernel
theorem dX8_carryFault_13 : decode cX8_carryFault 13 = .ok (.ifCond .ne 5, 3) := by decide +kernel
theorem dX8_carryFault_16 : decode cX8_carryFault 16 = .ok (.iconst 1, 1) := by decide +kernel
theorem dX8_carryFault_17 : decode cX8_carryFault 17 = .ok (.ireturn, 1) := by decide +kernel
theorem dX8_carryFault_18 : decode cX8_carryFault 18 = .ok (.aload_n 0, 1) := by decide +kernel
theorem dX8_carryFault_19 : decode cX8_carryFault 19 = .ok (.getfield 33, 3) := by decide +kernel
theorem dX8_carryFault_22 : decode cX8_carryFault 22 = .ok (.getfield 315, 3) := by decide +kernel
theorem dX8_carryFault_25 : decode cX8_carryFault 25 = .ok (.iload_n 1, 1) := by decide +kernel
theorem dX8_carryFault_26 : decode cX8_carryFault 26 = .ok (.iaload, 1) := by decide +kernel
theorem dX8_carryFault_27 : decode cX8_carryFault 27 = .ok (.ifCond .ne 7, 3) := by decide +kernel
theorem dX8_carryFault_30 : decode cX8_carryFault 30 = .ok (.iconst 0, 1) := by decide +kernel
theorem dX8_carryFault_31 : decode cX8_carryFault 31 = .ok (.goto 5, 3) := by decide +kernel
theorem dX8_carryFault_34 : decode cX8_carryFault 34 = .ok (.bipush 7, 2) := by decide +kernel
theorem dX8_carryFault_36 : decode cX8_carryFault 36 = .ok (.ireturn, 1) := by decide +kernel
theorem dX8_carrying_0 : decode cX8_carrying 0 = .ok (.aload_n 0, 1) := by decide +kernel
theorem dX8_carrying_1 : decode cX8_carrying 1 = .ok (.aload_n 0, 1) := by decide +kernel
theorem dX8_carrying_2 : decode cX8_carrying 2 = .ok (.iload_n 1, 1) := by decide +kernel
theorem dX8_carrying_3 : decode cX8_carrying 3 = .ok (.invokevirtual 167, 3) := by decide +kernel
theorem dX8_carrying_6 : decode cX8_carrying 6 = .ok (.invokestatic 89, 3) := by decide +kernel
theorem dX8_carrying_9 : decode cX8_carrying 9 = .ok (.putfield 67, 3) := by decide +kernel
theorem dX8_carrying_12 : decode cX8_carrying 12 = .ok (.aload_n 0, 1) := by decide +kernel
theorem dX8_carrying_13 : decode cX8_carrying 13 = .ok (.getfield 67, 3) := by decide +kernel
theorem dX8_carrying_16 : decode cX8_carrying 16 = .ok (.ifCond .eq 5, 3) := by decide +kernel
theorem dX8_carrying_19 : decode cX8_carrying 19 = .ok (.iconst (-1), 1) := by decide +kernel
theorem dX8_carrying_20 : decode cX8_carrying 20 = .ok (.ireturn, 1) := by decide +kernel
theorem dX8_carrying_21 : decode cX8_carrying 21 = .ok (.aload_n 0, 1) := by decide +kernel
theorem dX8_carrying_22 : decode cX8_carrying 22 = .ok (.getfield 49, 3) := by decide +kernel
theorem dX8_carrying_25 : decode cX8_carrying 25 = .ok (.iload_n 1, 1) := by decide +kernel
theorem dX8_carrying_26 : decode cX8_carrying 26 = .ok (.invokevirtual 224, 3) := by decide +kernel
theorem dX8_carrying_29 : decode cX8_carrying 29 = .ok (.aload_n 0, 1) := by decide +kernel
theorem dX8_carrying_30 : decode cX8_carrying 30 = .ok (.getfield 49, 3) := by decide +kernel
theorem dX8_carrying_33 : decode cX8_carrying 33 = .ok (.iload_n 1, 1) := by decide +kernel
theorem dX8_carrying_34 : decode cX8_carrying 34 = .ok (.invokevirtual 227, 3) := by decide +kernel
theorem dX8_carrying_37 : decode cX8_carrying 37 = .ok (.ireturn, 1) := by decide +kernel
theorem dX8_comes_0 : decode cX8_comes 0 = .ok (.aload_n 0, 1) := by decide +kernel
theorem dX8_comes_1 : decode cX8_comes 1 = .ok (.aload_n 0, 1) := by decide +kernel
theorem dX8_comes_2 : decode cX8_comes 2 = .ok (.iload_n 1, 1) := by decide +kernel
theorem dX8_comes_3 : decode cX8_comes 3 = .ok (.iload_n 2, 1) := by decide +kernel
theorem dX8_comes_4 : decode cX8_comes 4 = .ok (.iload_n 3, 1) := by decide +kernel
theorem dX8_comes_5 : decode cX8_comes 5 = .ok (.iload 4, 2) := by decide +kernel
theorem dX8_comes_7 : decode cX8_comes 7 = .ok (.invokevirtual 254, 3) := by decide +kernel
theorem dX8_comes_10 : decode cX8_comes 10 = .ok (.putfield 67, 3) := by decide +kernel
theorem dX8_comes_13 : decode cX8_comes 13 = .ok (.aload_n 0, 1) := by decide +kernel
theorem dX8_comes_14 : decode cX8_comes 14 = .ok (.getfield 67, 3) := by decide +kernel
theorem dX8_comes_17 : decode cX8_comes 17 = .ok (.ifCond .eq 5, 3) := by decide +kernel
theorem dX8_comes_20 : decode cX8_comes 20 = .ok (.iconst (-1), 1) := by decide +kernel
theorem dX8_comes_21 : decode cX8_comes 21 = .ok (.ireturn, 1) := by decide +kernel
theorem dX8_comes_22 : decode cX8_comes 22 = .ok (.aload_n 0, 1) := by decide +kernel
theorem dX8_comes_23 : decode cX8_comes 23 = .ok (.iload 4, 2) := by decide +kernel
theorem dX8_comes_25 : decode cX8_comes 25 = .ok (.putfield 71, 3) := by decide +kernel
theorem dX8_comes_28 : decode cX8_comes 28 = .ok (.aload_n 0, 1) := by decide +kernel
theorem dX8_comes_29 : decode cX8_comes 29 = .ok (.getfield 33, 3) := by decide +kernel
theorem dX8_comes_32 : decode cX8_comes 32 = .ok (.getfield 257, 3) := by decide +kernel
theorem dX8_comes_35 : decode cX8_comes 35 = .ok (.iload_n 1, 1) := by decide +kernel
theorem dX8_comes_36 : decode cX8_comes 36 = .ok (.iaload, 1) := by decide +kernel
theorem dX8_comes_37 : decode cX8_comes 37 = .ok (.istore 5, 2) := by decide +kernel
theorem dX8_comes_39 : decode cX8_comes 39 = .ok (.aload_n 0, 1) := by decide +kernel
theorem dX8_comes_40 : decode cX8_comes 40 = .ok (.getfield 33, 3) := by decide +kernel
theorem dX8_comes_43 : decode cX8_comes 43 = .ok (.getfield 259, 3) := by decide +kernel
theorem dX8_comes_46 : decode cX8_comes 46 = .ok (.iload_n 1, 1) := by decide +kernel
theorem dX8_comes_47 : decode cX8_comes 47 = .ok (.iaload, 1) := by decide +kernel
theorem dX8_comes_48 : decode cX8_comes 48 = .ok (.istore 6, 2) := by decide +kernel
theorem dX8_comes_50 : decode cX8_comes 50 = .ok (.aload_n 0, 1) := by decide +kernel
theorem dX8_comes_51 : decode cX8_comes 51 = .ok (.getfield 33, 3) := by decide +kernel
theorem dX8_comes_54 : decode cX8_comes 54 = .ok (.iload_n 1, 1) := by decide +kernel
theorem dX8_comes_55 : decode cX8_comes 55 = .ok (.iload 4, 2) := by decide +kernel
theorem dX8_comes_57 : decode cX8_comes 57 = .ok (.invokevirtual 262, 3) := by decide +kernel
theorem dX8_comes_60 : decode cX8_comes 60 = .ok (.aload_n 0, 1) := by decide +kernel
theorem dX8_comes_61 : decode cX8_comes 61 = .ok (.getfield 56, 3) := by decide +kernel
theorem dX8_comes_64 : decode cX8_comes 64 = .ok (.getfield 251, 3) := by decide +kernel
theorem dX8_comes_67 : decode cX8_comes 67 = .ok (.iload 5, 2) := by decide +kernel
theorem dX8_comes_69 : decode cX8_comes 69 = .ok (.aaload, 1) := by decide +kernel
theorem dX8_comes_70 : decode cX8_comes 70 = .ok (.iconst 1, 1) := by decide +kernel
theorem dX8_comes_71 : decode cX8_comes 71 = .ok (.dup2, 1) := by decide +kernel
theorem dX8_comes_72 : decode cX8_comes 72 = .ok (.iaload, 1) := by decide +kernel
theorem dX8_comes_73 : decode cX8_comes 73 = .ok (.iconst 1, 1) := by decide +kernel
theorem dX8_comes_74 : decode cX8_comes 74 = .ok (.iadd, 1) := by decide +kernel
theorem dX8_comes_75 : decode cX8_comes 75 = .ok (.iastore, 1) := by decide +kernel
theorem dX8_comes_76 : decode cX8_comes 76 = .ok (.aload_n 0, 1) := by decide +kernel
theorem dX8_comes_77 : decode cX8_comes 77 = .ok (.getfield 56, 3) := by decide +kernel
theorem dX8_comes_80 : decode cX8_comes 80 = .ok (.iload 5, 2) := by decide +kernel
theorem dX8_comes_82 : decode cX8_comes 82 = .ok (.iload 6, 2) := by decide +kernel
theorem dX8_comes_84 : decode cX8_comes 84 = .ok (.iload_n 2, 1) := by decide +kernel
theorem dX8_comes_85 : decode cX8_comes 85 = .ok (.iload_n 3, 1) := by decide +kernel
theorem dX8_comes_86 : decode cX8_comes 86 = .ok (.iload 4, 2) := by decide +kernel
theorem dX8_comes_88 : decode cX8_comes 88 = .ok (.invokevirtual 265, 3) := by decide +kernel
theorem dX8_comes_91 : decode cX8_comes 91 = .ok (.ifCond .eq 7, 3) := by decide +kernel
theorem dX8_comes_94 : decode cX8_comes 94 = .ok (.iconst 1, 1) := by decide +kernel
theorem dX8_comes_95 : decode cX8_comes 95 = .ok (.goto 4, 3) := by decide +kernel
theorem dX8_comes_98 : decode cX8_comes 98 = .ok (.iconst 0, 1) := by decide +kernel
theorem dX8_comes_99 : decode cX8_comes 99 = .ok (.ireturn, 1) := by decide +kernel
theorem dX8_comesFault_0 : decode cX8_comesFault 0 = .ok (.aload_n 0, 1) := by decide +kernel
theorem dX8_comesFault_1 : decode cX8_comesFault 1 = .ok (.iload_n 1, 1) := by decide +kernel
theorem dX8_comesFault_2 : decode cX8_comesFault 2 = .ok (.invokevirtual 161, 3) := by decide +kernel
theorem dX8_comesFault_5 : decode cX8_comesFault 5 = .ok (.ifCond .eq 11, 3) := by decide +kernel
theorem dX8_comesFault_8 : decode cX8_comesFault 8 = .ok (.iload 4, 2) := by decide +kernel
theorem dX8_comesFault_10 : decode cX8_comesFault 10 = .ok (.invokestatic 321, 3) := by decide +kernel
theorem dX8_comesFault_13 : decode cX8_comesFault 13 = .ok (.ifCond .ne 5, 3) := by decide +kernel
theorem dX8_comesFault_16 : decode cX8_comesFault 16 = .ok (.iconst 1, 1) := by decide +kernel
theorem dX8_comesFault_17 : decode cX8_comesFault 17 = .ok (.ireturn, 1) := by decide +kernel
theorem dX8_comesFault_18 : decode cX8_comesFault 18 = .ok (.aload_n 0, 1) := by decide +kernel
theorem dX8_comesFault_19 : decode cX8_comesFault 19 = .ok (.iload_n 1, 1) := by decide +kernel
theorem dX8_comesFault_20 : decode cX8_comesFault 20 = .ok (.iload_n 2, 1) := by decide +kernel
theorem dX8_comesFault_21 : decode cX8_comesFault 21 = .ok (.iload_n 3, 1) := by decide +kernel
theorem dX8_comesFault_22 : decode cX8_comesFault 22 = .ok (.invokevirtual 333, 3) := by decide +kernel
theorem dX8_comesFault_25 : decode cX8_comesFault 25 = .ok (.ifCond .ne 5, 3) := by decide +kernel
theorem dX8_comesFault_28 : decode cX8_comesFault 28 = .ok (.iconst 1, 1) := by decide +kernel
theorem dX8_comesFault_29 : decode cX8_comesFault 29 = .ok (.ireturn, 1) := by decide +kernel
theorem dX8_comesFault_30 : decode cX8_comesFault 30 = .ok (.iload 4, 2) := by decide +kernel
theorem dX8_comesFault_32 : decode cX8_comesFault 32 = .ok (.aload_n 0, 1) := by decide +kernel
theorem dX8_comesFault_33 : decode cX8_comesFault 33 = .ok (.getfield 71, 3) := by decide +kernel
theorem dX8_comesFault_36 : decode cX8_comesFault 36 = .ok (.if_icmp .ge 5, 3) := by decide +kernel
theorem dX8_comesFault_39 : decode cX8_comesFault 39 = .ok (.iconst 2, 1) := by decide +kernel
theorem dX8_comesFault_40 : decode cX8_comesFault 40 = .ok (.ireturn, 1) := by decide +kernel
theorem dX8_comesFault_41 : decode cX8_comesFault 41 = .ok (.aload_n 0, 1) := by decide +kernel
theorem dX8_comesFault_42 : decode cX8_comesFault 42 = .ok (.getfield 33, 3) := by decide +kernel
theorem dX8_comesFault_45 : decode cX8_comesFault 45 = .ok (.getfield 315, 3) := by decide +kernel
theorem dX8_comesFault_48 : decode cX8_comesFault 48 = .ok (.iload_n 1, 1) := by decide +kernel
theorem dX8_comesFault_49 : decode cX8_comesFault 49 = .ok (.iaload, 1) := by decide +kernel
theorem dX8_comesFault_50 : decode cX8_comesFault 50 = .ok (.iconst 1, 1) := by decide +kernel
theorem dX8_comesFault_51 : decode cX8_comesFault 51 = .ok (.if_icmp .ne 7, 3) := by decide +kernel
theorem dX8_comesFault_54 : decode cX8_comesFault 54 = .ok (.iconst 0, 1) := by decide +kernel
theorem dX8_comesFault_55 : decode cX8_comesFault 55 = .ok (.goto 5, 3) := by decide +kernel
theorem dX8_comesFault_58 : decode cX8_comesFault 58 = .ok (.bipush 7, 2) := by decide +kernel
theorem dX8_comesFault_60 : decode cX8_comesFault 60 = .ok (.ireturn, 1) := by decide +kernel
theorem dX8_copies_0 : decode cX8_copies 0 = .ok (.aload_n 0, 1) := by decide +kernel
theorem dX8_copies_1 : decode cX8_copies 1 = .ok (.aload_n 0, 1) := by decide +kernel
theorem dX8_copies_2 : decode cX8_copies 2 = .ok (.iload_n 1, 1) := by decide +kernel
theorem dX8_copies_3 : decode cX8_copies 3 = .ok (.invokevirtual 275, 3) := by decide +kernel
theorem dX8_copies_6 : decode cX8_copies 6 = .ok (.ifCond .eq 16, 3) := by decide +kernel
theorem dX8_copies_9 : decode cX8_copies 9 = .ok (.iload_n 2, 1) := by decide +kernel
theorem dX8_copies_10 : decode cX8_copies 10 = .ok (.iconst 0, 1) := by decide +kernel
theorem dX8_copies_11 : decode cX8_copies 11 = .ok (.iconst 2, 1) := by decide +kernel
theorem dX8_copies_12 : decode cX8_copies 12 = .ok (.invokestatic 85, 3) := by decide +kernel
theorem dX8_copies_15 : decode cX8_copies 15 = .ok (.ifCond .eq 7, 3) := by decide +kernel
theorem dX8_copies_18 : decode cX8_copies 18 = .ok (.iconst 1, 1) := by decide +kernel
theorem dX8_copies_19 : decode cX8_copies 19 = .ok (.goto 4, 3) := by decide +kernel
theorem dX8_copies_22 : decode cX8_copies 22 = .ok (.iconst 0, 1) := by decide +kernel
theorem dX8_copies_23 : decode cX8_copies 23 = .ok (.invokestatic 89, 3) := by decide +kernel
theorem dX8_copies_26 : decode cX8_copies 26 = .ok (.putfield 67, 3) := by decide +kernel
theorem dX8_copies_29 : decode cX8_copies 29 = .ok (.aload_n 0, 1) := by decide +kernel
theorem dX8_copies_30 : decode cX8_copies 30 = .ok (.getfield 67, 3) := by decide +kernel
theorem dX8_copies_33 : decode cX8_copies 33 = .ok (.ifCond .eq 5, 3) := by decide +kernel
theorem dX8_copies_36 : decode cX8_copies 36 = .ok (.iconst (-1), 1) := by decide +kernel
theorem dX8_copies_37 : decode cX8_copies 37 = .ok (.ireturn, 1) := by decide +kernel
theorem dX8_copies_38 : decode cX8_copies 38 = .ok (.aload_n 0, 1) := by decide +kernel
theorem dX8_copies_39 : decode cX8_copies 39 = .ok (.getfield 56, 3) := by decide +kernel
theorem dX8_copies_42 : decode cX8_copies 42 = .ok (.getfield 251, 3) := by decide +kernel
theorem dX8_copies_45 : decode cX8_copies 45 = .ok (.iload_n 1, 1) := by decide +kernel
theorem dX8_copies_46 : decode cX8_copies 46 = .ok (.aaload, 1) := by decide +kernel
theorem dX8_copies_47 : decode cX8_copies 47 = .ok (.iload_n 2, 1) := by decide +kernel
theorem dX8_copies_48 : decode cX8_copies 48 = .ok (.iaload, 1) := by decide +kernel
theorem dX8_copies_49 : decode cX8_copies 49 = .ok (.ireturn, 1) := by decide +kernel
theorem dX8_doubles_0 : decode cX8_doubles 0 = .ok (.aload_n 0, 1) := by decide +kernel
theorem dX8_doubles_1 : decode cX8_doubles 1 = .ok (.aload_n 0, 1) := by decide +kernel
theorem dX8_doubles_2 : decode cX8_doubles 2 = .ok (.iload_n 1, 1) := by decide +kernel
theorem dX8_doubles_3 : decode cX8_doubles 3 = .ok (.invokevirtual 167, 3) := by decide +kernel
theorem dX8_doubles_6 : decode cX8_doubles 6 = .ok (.ifCond .eq 24, 3) := by decide +kernel
theorem dX8_doubles_9 : decode cX8_doubles 9 = .ok (.aload_n 0, 1) := by decide +kernel
theorem dX8_doubles_10 : decode cX8_doubles 10 = .ok (.iload_n 2, 1) := by decide +kernel
theorem dX8_doubles_11 : decode cX8_doubles 11 = .ok (.invokevirtual 167, 3) := by decide +kernel
theorem dX8_doubles_14 : decode cX8_doubles 14 = .ok (.ifCond .eq 16, 3) := by decide +kernel
theorem dX8_doubles_17 : decode cX8_doubles 17 = .ok (.iload_n 3, 1) := by decide +kernel
theorem dX8_doubles_18 : decode cX8_doubles 18 = .ok (.iload 4, 2) := by decide +kernel
theorem dX8_doubles_20 : decode cX8_doubles 20 = .ok (.invokestatic 194, 3) := by decide +kernel
theorem dX8_doubles_23 : decode cX8_doubles 23 = .ok (.ifCond .eq 7, 3) := by decide +kernel
theorem dX8_doubles_26 : decode cX8_doubles 26 = .ok (.iconst 1, 1) := by decide +kernel
theorem dX8_doubles_27 : decode cX8_doubles 27 = .ok (.goto 4, 3) := by decide +kernel
theorem dX8_doubles_30 : decode cX8_doubles 30 = .ok (.iconst 0, 1) := by decide +kernel
theorem dX8_doubles_31 : decode cX8_doubles 31 = .ok (.invokestatic 89, 3) := by decide +kernel
theorem dX8_doubles_34 : decode cX8_doubles 34 = .ok (.putfield 67, 3) := by decide +kernel
theorem dX8_doubles_37 : decode cX8_doubles 37 = .ok (.aload_n 0, 1) := by decide +kernel
theorem dX8_doubles_38 : decode cX8_doubles 38 = .ok (.getfield 67, 3) := by decide +kernel
theorem dX8_doubles_41 : decode cX8_doubles 41 = .ok (.ifCond .eq 5, 3) := by decide +kernel
theorem dX8_doubles_44 : decode cX8_doubles 44 = .ok (.iconst (-1), 1) := by decide +kernel
theorem dX8_doubles_45 : decode cX8_doubles 45 = .ok (.ireturn, 1) := by decide +kernel
theorem dX8_doubles_46 : decode cX8_doubles 46 = .ok (.aload_n 0, 1) := by decide +kernel
theorem dX8_doubles_47 : decode cX8_doubles 47 = .ok (.getfield 26, 3) := by decide +kernel
theorem dX8_doubles_50 : decode cX8_doubles 50 = .ok (.iload_n 1, 1) := by decide +kernel
theorem dX8_doubles_51 : decode cX8_doubles 51 = .ok (.iload_n 2, 1) := by decide +kernel
theorem dX8_doubles_52 : decode cX8_doubles 52 = .ok (.iload_n 3, 1) := by decide +kernel
theorem dX8_doubles_53 : decode cX8_doubles 53 = .ok (.iload 4, 2) := by decide +kernel
theorem dX8_doubles_55 : decode cX8_doubles 55 = .ok (.invokevirtual 197, 3) := by decide +kernel
theorem dX8_doubles_58 : decode cX8_doubles 58 = .ok (.istore 5, 2) := by decide +kernel
theorem dX8_doubles_60 : decode cX8_doubles 60 = .ok (.iload 5, 2) := by decide +kernel
theorem dX8_doubles_62 : decode cX8_doubles 62 = .ok (.iconst (-1), 1) := by decide +kernel
theorem dX8_doubles_63 : decode cX8_doubles 63 = .ok (.if_icmp .ne 9, 3) := by decide +kernel
theorem dX8_doubles_66 : decode cX8_doubles 66 = .ok (.aload_n 0, 1) := by decide +kernel
theorem dX8_doubles_67 : decode cX8_doubles 67 = .ok (.bipush 6, 2) := by decide +kernel
theorem dX8_doubles_69 : decode cX8_doubles 69 = .ok (.putfield 67, 3) := by decide +kernel
theorem dX8_doubles_72 : decode cX8_doubles 72 = .ok (.iload 5, 2) := by decide +kernel
theorem dX8_doubles_74 : decode cX8_doubles 74 = .ok (.ireturn, 1) := by decide +kernel
theorem dX8_fare_0 : decode cX8_fare 0 = .ok (.aload_n 0, 1) := by decide +kernel
theorem dX8_fare_1 : decode cX8_fare 1 = .ok (.aload_n 0, 1) := by decide +kernel
theorem dX8_fare_2 : decode cX8_fare 2 = .ok (.iload_n 1, 1) := by decide +kernel
theorem dX8_fare_3 : decode cX8_fare 3 = .ok (.iload_n 2, 1) := by decide +kernel
theorem dX8_fare_4 : decode cX8_fare 4 = .ok (.invokevirtual 136, 3) := by decide +kernel
theorem dX8_fare_7 : decode cX8_fare 7 = .ok (.ifCond .eq 18, 3) := by decide +kernel
theorem dX8_fare_10 : decode cX8_fare 10 = .ok (.iload_n 3, 1) := by decide +kernel
theorem dX8_fare_11 : decode cX8_fare 11 = .ok (.iconst 0, 1) := by decide +kernel
theorem dX8_fare_12 : decode cX8_fare 12 = .ok (.sipush 1000, 3) := by decide +kernel
theorem dX8_fare_15 : decode cX8_fare 15 = .ok (.invokestatic 85, 3) := by decide +kernel
theorem dX8_fare_18 : decode cX8_fare 18 = .ok (.ifCond .eq 7, 3) := by decide +kernel
theorem dX8_fare_21 : decode cX8_fare 21 = .ok (.iconst 1, 1) := by decide +kernel
theorem dX8_fare_22 : decode cX8_fare 22 = .ok (.goto 4, 3) := by decide +kernel
theorem dX8_fare_25 : decode cX8_fare 25 = .ok (.iconst 0, 1) := by decide +kernel
theorem dX8_fare_26 : decode cX8_fare 26 = .ok (.invokestatic 89, 3) := by decide +kernel
theorem dX8_fare_29 : decode cX8_fare 29 = .ok (.putfield 67, 3) := by decide +kernel
theorem dX8_fare_32 : decode cX8_fare 32 = .ok (.aload_n 0, 1) := by decide +kernel
theorem dX8_fare_33 : decode cX8_fare 33 = .ok (.getfield 67, 3) := by decide +kernel
theorem dX8_fare_36 : decode cX8_fare 36 = .ok (.ifCond .eq 5, 3) := by decide +kernel
theorem dX8_fare_39 : decode cX8_fare 39 = .ok (.iconst 0, 1) := by decide +kernel
theorem dX8_fare_40 : decode cX8_fare 40 = .ok (.ireturn, 1) := by decide +kernel
theorem dX8_fare_41 : decode cX8_fare 41 = .ok (.aload_n 0, 1) := by decide +kernel
theorem dX8_fare_42 : decode cX8_fare 42 = .ok (.getfield 26, 3) := by decide +kernel
theorem dX8_fare_45 : decode cX8_fare 45 = .ok (.getfield 140, 3) := by decide +kernel
theorem dX8_fare_48 : decode cX8_fare 48 = .ok (.iload_n 1, 1) := by decide +kernel
theorem dX8_fare_49 : decode cX8_fare 49 = .ok (.aaload, 1) := by decide +kernel
theorem dX8_fare_50 : decode cX8_fare 50 = .ok (.iload_n 2, 1) := by decide +kernel
theorem dX8_fare_51 : decode cX8_fare 51 = .ok (.iload_n 3, 1) := by decide +kernel
theorem dX8_fare_52 : decode cX8_fare 52 = .ok (.iastore, 1) := by decide +kernel
theorem dX8_fare_53 : decode cX8_fare 53 = .ok (.iconst 1, 1) := by decide +kernel
theorem dX8_fare_54 : decode cX8_fare 54 = .ok (.ireturn, 1) := by decide +kernel
theorem dX8_fares_0 : decode cX8_fares 0 = .ok (.aload_n 0, 1) := by decide +kernel
theorem dX8_fares_1 : decode cX8_fares 1 = .ok (.aload_n 0, 1) := by decide +kernel
theorem dX8_fares_2 : decode cX8_fares 2 = .ok (.iload_n 1, 1) := by decide +kernel
theorem dX8_fares_3 : decode cX8_fares 3 = .ok (.invokevirtual 167, 3) := by decide +kernel
theorem dX8_fares_6 : decode cX8_fares 6 = .ok (.invokestatic 89, 3) := by decide +kernel
theorem dX8_fares_9 : decode cX8_fares 9 = .ok (.putfield 67, 3) := by decide +kernel
theorem dX8_fares_12 : decode cX8_fares 12 = .ok (.aload_n 0, 1) := by decide +kernel
theorem dX8_fares_13 : decode cX8_fares 13 = .ok (.getfield 67, 3) := by decide +kernel
theorem dX8_fares_16 : decode cX8_fares 16 = .ok (.ifCond .eq 5, 3) := by decide +kernel
theorem dX8_fares_19 : decode cX8_fares 19 = .ok (.iconst (-1), 1) := by decide +kernel
theorem dX8_fares_20 : decode cX8_fares 20 = .ok (.ireturn, 1) := by decide +kernel
theorem dX8_fares_21 : decode cX8_fares 21 = .ok (.aload_n 0, 1) := by decide +kernel
theorem dX8_fares_22 : decode cX8_fares 22 = .ok (.getfield 49, 3) := by decide +kernel
theorem dX8_fares_25 : decode cX8_fares 25 = .ok (.iload_n 1, 1) := by decide +kernel
theorem dX8_fares_26 : decode cX8_fares 26 = .ok (.invokevirtual 224, 3) := by decide +kernel
theorem dX8_fares_29 : decode cX8_fares 29 = .ok (.aload_n 0, 1) := by decide +kernel
theorem dX8_fares_30 : decode cX8_fares 30 = .ok (.getfield 49, 3) := by decide +kernel
theorem dX8_fares_33 : decode cX8_fares 33 = .ok (.iload_n 1, 1) := by decide +kernel
theorem dX8_fares_34 : decode cX8_fares 34 = .ok (.invokevirtual 233, 3) := by decide +kernel
theorem dX8_fares_37 : decode cX8_fares 37 = .ok (.ireturn, 1) := by decide +kernel
theorem dX8_fly_0 : decode cX8_fly 0 = .ok (.aload_n 0, 1) := by decide +kernel
theorem dX8_fly_1 : decode cX8_fly 1 = .ok (.aload_n 0, 1) := by decide +kernel
theorem dX8_fly_2 : decode cX8_fly 2 = .ok (.iload_n 1, 1) := by decide +kernel
theorem dX8_fly_3 : decode cX8_fly 3 = .ok (.iload_n 2, 1) := by decide +kernel
theorem dX8_fly_4 : decode cX8_fly 4 = .ok (.iload_n 3, 1) := by decide +kernel
theorem dX8_fly_5 : decode cX8_fly 5 = .ok (.invokevirtual 245, 3) := by decide +kernel
theorem dX8_fly_8 : decode cX8_fly 8 = .ok (.putfield 67, 3) := by decide +kernel
theorem dX8_fly_11 : decode cX8_fly 11 = .ok (.aload_n 0, 1) := by decide +kernel
theorem dX8_fly_12 : decode cX8_fly 12 = .ok (.getfield 67, 3) := by decide +kernel
theorem dX8_fly_15 : decode cX8_fly 15 = .ok (.ifCond .eq 5, 3) := by decide +kernel
theorem dX8_fly_18 : decode cX8_fly 18 = .ok (.iconst 0, 1) := by decide +kernel
theorem dX8_fly_19 : decode cX8_fly 19 = .ok (.ireturn, 1) := by decide +kernel
theorem dX8_fly_20 : decode cX8_fly 20 = .ok (.aload_n 0, 1) := by decide +kernel
theorem dX8_fly_21 : decode cX8_fly 21 = .ok (.iload_n 3, 1) := by decide +kernel
theorem dX8_fly_22 : decode cX8_fly 22 = .ok (.putfield 71, 3) := by decide +kernel
theorem dX8_fly_25 : decode cX8_fly 25 = .ok (.aload_n 0, 1) := by decide +kernel
theorem dX8_fly_26 : decode cX8_fly 26 = .ok (.getfield 33, 3) := by decide +kernel
theorem dX8_fly_29 : decode cX8_fly 29 = .ok (.iload_n 1, 1) := by decide +kernel
theorem dX8_fly_30 : decode cX8_fly 30 = .ok (.iload_n 2, 1) := by decide +kernel
theorem dX8_fly_31 : decode cX8_fly 31 = .ok (.invokevirtual 248, 3) := by decide +kernel
theorem dX8_fly_34 : decode cX8_fly 34 = .ok (.aload_n 0, 1) := by decide +kernel
theorem dX8_fly_35 : decode cX8_fly 35 = .ok (.getfield 56, 3) := by decide +kernel
theorem dX8_fly_38 : decode cX8_fly 38 = .ok (.getfield 251, 3) := by decide +kernel
theorem dX8_fly_41 : decode cX8_fly 41 = .ok (.iload_n 2, 1) := by decide +kernel
theorem dX8_fly_42 : decode cX8_fly 42 = .ok (.aaload, 1) := by decide +kernel
theorem dX8_fly_43 : decode cX8_fly 43 = .ok (.iconst 0, 1) := by decide +kernel
theorem dX8_fly_44 : decode cX8_fly 44 = .ok (.dup2, 1) := by decide +kernel
theorem dX8_fly_45 : decode cX8_fly 45 = .ok (.iaload, 1) := by decide +kernel
theorem dX8_fly_46 : decode cX8_fly 46 = .ok (.iconst 1, 1) := by decide +kernel
theorem dX8_fly_47 : decode cX8_fly 47 = .ok (.iadd, 1) := by decide +kernel
theorem dX8_fly_48 : decode cX8_fly 48 = .ok (.iastore, 1) := by decide +kernel
theorem dX8_fly_49 : decode cX8_fly 49 = .ok (.iconst 1, 1) := by decide +kernel
theorem dX8_fly_50 : decode cX8_fly 50 = .ok (.ireturn, 1) := by decide +kernel
theorem dX8_flyFault_0 : decode cX8_flyFault 0 = .ok (.aload_n 0, 1) := by decide +kernel
theorem dX8_flyFault_1 : decode cX8_flyFault 1 = .ok (.iload_n 1, 1) := by decide +kernel
theorem dX8_flyFault_2 : decode cX8_flyFault 2 = .ok (.invokevirtual 161, 3) := by decide +kernel
theorem dX8_flyFault_5 : decode cX8_flyFault 5 = .ok (.ifCond .eq 18, 3) := by decide +kernel
theorem dX8_flyFault_8 : decode cX8_flyFault 8 = .ok (.aload_n 0, 1) := by decide +kernel
theorem dX8_flyFault_9 : decode cX8_flyFault 9 = .ok (.iload_n 2, 1) := by decide +kernel
theorem dX8_flyFault_10 : decode cX8_flyFault 10 = .ok (.invokevirtual 275, 3) := by decide +kernel
theorem dX8_flyFault_13 : decode cX8_flyFault 13 = .ok (.ifCond .eq 10, 3) := by decide +kernel
theorem dX8_flyFault_16 : decode cX8_flyFault 16 = .ok (.iload_n 3, 1) := by decide +kernel
theorem dX8_flyFault_17 : decode cX8_flyFault 17 = .ok (.invokestatic 321, 3) := by decide +kernel
theorem dX8_flyFault_20 : decode cX8_flyFault 20 = .ok (.ifCond .ne 5, 3) := by decide +kernel
theorem dX8_flyFault_23 : decode cX8_flyFault 23 = .ok (.iconst 1, 1) := by decide +kernel
theorem dX8_flyFault_24 : decode cX8_flyFault 24 = .ok (.ireturn, 1) := by decide +kernel
theorem dX8_flyFault_25 : decode cX8_flyFault 25 = .ok (.iload_n 3, 1) := by decide +kernel
theorem dX8_flyFault_26 : decode cX8_flyFault 26 = .ok (.aload_n 0, 1) := by decide +kernel
theorem dX8_flyFault_27 : decode cX8_flyFault 27 = .ok (.getfield 71, 3) := by decide +kernel
theorem dX8_flyFault_30 : decode cX8_flyFault 30 = .ok (.if_icmp .ge 5, 3) := by decide +kernel
theorem dX8_flyFault_33 : decode cX8_flyFault 33 = .ok (.iconst 2, 1) := by decide +kernel
theorem dX8_flyFault_34 : decode cX8_flyFault 34 = .ok (.ireturn, 1) := by decide +kernel
theorem dX8_flyFault_35 : decode cX8_flyFault 35 = .ok (.aload_n 0, 1) := by decide +kernel
theorem dX8_flyFault_36 : decode cX8_flyFault 36 = .ok (.getfield 33, 3) := by decide +kernel
theorem dX8_flyFault_39 : decode cX8_flyFault 39 = .ok (.iload_n 1, 1) := by decide +kernel
theorem dX8_flyFault_40 : decode cX8_flyFault 40 = .ok (.iload_n 3, 1) := by decide +kernel
theorem dX8_flyFault_41 : decode cX8_flyFault 41 = .ok (.invokevirtual 328, 3) := by decide +kernel
theorem dX8_flyFault_44 : decode cX8_flyFault 44 = .ok (.ifCond .ne 6, 3) := by decide +kernel
theorem dX8_flyFault_47 : decode cX8_flyFault 47 = .ok (.bipush 7, 2) := by decide +kernel
theorem dX8_flyFault_49 : decode cX8_flyFault 49 = .ok (.ireturn, 1) := by decide +kernel
theorem dX8_flyFault_50 : decode cX8_flyFault 50 = .ok (.aload_n 0, 1) := by decide +kernel
theorem dX8_flyFault_51 : decode cX8_flyFault 51 = .ok (.getfield 33, 3) := by decide +kernel
theorem dX8_flyFault_54 : decode cX8_flyFault 54 = .ok (.getfield 331, 3) := by decide +kernel
theorem dX8_flyFault_57 : decode cX8_flyFault 57 = .ok (.iload_n 1, 1) := by decide +kernel
theorem dX8_flyFault_58 : decode cX8_flyFault 58 = .ok (.iaload, 1) := by decide +kernel
theorem dX8_flyFault_59 : decode cX8_flyFault 59 = .ok (.istore 4, 2) := by decide +kernel
theorem dX8_flyFault_61 : decode cX8_flyFault 61 = .ok (.aload_n 0, 1) := by decide +kernel
theorem dX8_flyFault_62 : decode cX8_flyFault 62 = .ok (.getfield 26, 3) := by decide +kernel
theorem dX8_flyFault_65 : decode cX8_flyFault 65 = .ok (.iload 4, 2) := by decide +kernel
theorem dX8_flyFault_67 : decode cX8_flyFault 67 = .ok (.aload_n 0, 1) := by decide +kernel
theorem dX8_flyFault_68 : decode cX8_flyFault 68 = .ok (.getfield 33, 3) := by decide +kernel
theorem dX8_flyFault_71 : decode cX8_flyFault 71 = .ok (.getfield 259, 3) := by decide +kernel
theorem dX8_flyFault_74 : decode cX8_flyFault 74 = .ok (.iload_n 1, 1) := by decide +kernel
theorem dX8_flyFault_75 : decode cX8_flyFault 75 = .ok (.iaload, 1) := by decide +kernel
theorem dX8_flyFault_76 : decode cX8_flyFault 76 = .ok (.invokevirtual 311, 3) := by decide +kernel
theorem dX8_flyFault_79 : decode cX8_flyFault 79 = .ok (.ifCond .ne 6, 3) := by decide +kernel
theorem dX8_flyFault_82 : decode cX8_flyFault 82 = .ok (.bipush 6, 2) := by decide +kernel
theorem dX8_flyFault_84 : decode cX8_flyFault 84 = .ok (.ireturn, 1) := by decide +kernel
theorem dX8_flyFault_85 : decode cX8_flyFault 85 = .ok (.aload_n 0, 1) := by decide +kernel
theorem dX8_flyFault_86 : decode cX8_flyFault 86 = .ok (.getfield 56, 3) := by decide +kernel
theorem dX8_flyFault_89 : decode cX8_flyFault 89 = .ok (.getfield 278, 3) := by decide +kernel
theorem dX8_flyFault_92 : decode cX8_flyFault 92 = .ok (.iload_n 2, 1) := by decide +kernel
theorem dX8_flyFault_93 : decode cX8_flyFault 93 = .ok (.aaload, 1) := by decide +kernel
theorem dX8_flyFault_94 : decode cX8_flyFault 94 = .ok (.iload 4, 2) := by decide +kernel
theorem dX8_flyFault_96 : decode cX8_flyFault 96 = .ok (.iaload, 1) := by decide +kernel
theorem dX8_flyFault_97 : decode cX8_flyFault 97 = .ok (.iconst (-1), 1) := by decide +kernel
theorem dX8_flyFault_98 : decode cX8_flyFault 98 = .ok (.if_icmp .ne 8, 3) := by decide +kernel
theorem dX8_flyFault_101 : decode cX8_flyFault 101 = .ok (.bipush 7, 2) := by decide +kernel
theorem dX8_flyFault_103 : decode cX8_flyFault 103 = .ok (.goto 4, 3) := by decide +kernel
theorem dX8_flyFault_106 : decode cX8_flyFault 106 = .ok (.iconst 0, 1) := by decide +kernel
theorem dX8_flyFault_107 : decode cX8_flyFault 107 = .ok (.ireturn, 1) := by decide +kernel
theorem dX8_isBird_0 : decode cX8_isBird 0 = .ok (.iload_n 1, 1) := by decide +kernel
theorem dX8_isBird_1 : decode cX8_isBird 1 = .ok (.iconst 0, 1) := by decide +kernel
theorem dX8_isBird_2 : decode cX8_isBird 2 = .ok (.aload_n 0, 1) := by decide +kernel
theorem dX8_isBird_3 : decode cX8_isBird 3 = .ok (.getfield 33, 3) := by decide +kernel
theorem dX8_isBird_6 : decode cX8_isBird 6 = .ok (.getfield 314, 3) := by decide +kernel
theorem dX8_isBird_9 : decode cX8_isBird 9 = .ok (.iconst 1, 1) := by decide +kernel
theorem dX8_isBird_10 : decode cX8_isBird 10 = .ok (.isub, 1) := by decide +kernel
theorem dX8_isBird_11 : decode cX8_isBird 11 = .ok (.invokestatic 85, 3) := by decide +kernel
theorem dX8_isBird_14 : decode cX8_isBird 14 = .ok (.ireturn, 1) := by decide +kernel
theorem dX8_isChance_0 : decode cX8_isChance 0 = .ok (.iload_n 1, 1) := by decide +kernel
theorem dX8_isChance_1 : decode cX8_isChance 1 = .ok (.iconst 1, 1) := by decide +kernel
theorem dX8_isChance_2 : decode cX8_isChance 2 = .ok (.sipush 1000, 3) := by decide +kernel
theorem dX8_isChance_5 : decode cX8_isChance 5 = .ok (.invokestatic 85, 3) := by decide +kernel
theorem dX8_isChance_8 : decode cX8_isChance 8 = .ok (.ifCond .eq 16, 3) := by decide +kernel
theorem dX8_isChance_11 : decode cX8_isChance 11 = .ok (.iload_n 0, 1) := by decide +kernel
theorem dX8_isChance_12 : decode cX8_isChance 12 = .ok (.iconst 0, 1) := by decide +kernel
theorem dX8_isChance_13 : decode cX8_isChance 13 = .ok (.iload_n 1, 1) := by decide +kernel
theorem dX8_isChance_14 : decode cX8_isChance 14 = .ok (.invokestatic 85, 3) := by decide +kernel
theorem dX8_isChance_17 : decode cX8_isChance 17 = .ok (.ifCond .eq 7, 3) := by decide +kernel
theorem dX8_isChance_20 : decode cX8_isChance 20 = .ok (.iconst 1, 1) := by decide +kernel
theorem dX8_isChance_21 : decode cX8_isChance 21 = .ok (.goto 4, 3) := by decide +kernel
theorem dX8_isChance_24 : decode cX8_isChance 24 = .ok (.iconst 0, 1) := by decide +kernel
theorem dX8_isChance_25 : decode cX8_isChance 25 = .ok (.ireturn, 1) := by decide +kernel
theorem dX8_isLetter_0 : decode cX8_isLetter 0 = .ok (.iload_n 1, 1) := by decide +kernel
theorem dX8_isLetter_1 : decode cX8_isLetter 1 = .ok (.iconst 0, 1) := by decide +kernel
theorem dX8_isLetter_2 : decode cX8_isLetter 2 = .ok (.aload_n 0, 1) := by decide +kernel
theorem dX8_isLetter_3 : decode cX8_isLetter 3 = .ok (.getfield 56, 3) := by decide +kernel
theorem dX8_isLetter_6 : decode cX8_isLetter 6 = .ok (.getfield 327, 3) := by decide +kernel
theorem dX8_isLetter_9 : decode cX8_isLetter 9 = .ok (.iconst 1, 1) := by decide +kernel
theorem dX8_isLetter_10 : decode cX8_isLetter 10 = .ok (.isub, 1) := by decide +kernel
theorem dX8_isLetter_11 : decode cX8_isLetter 11 = .ok (.invokestatic 85, 3) := by decide +kernel
theorem dX8_isLetter_14 : decode cX8_isLetter 14 = .ok (.ireturn, 1) := by decide +kernel
theorem dX8_isMinute_0 : decode cX8_isMinute 0 = .ok (.iload_n 0, 1) := by decide +kernel
theorem dX8_isMinute_1 : decode cX8_isMinute 1 = .ok (.iconst 0, 1) := by decide +kernel
theorem dX8_isMinute_2 : decode cX8_isMinute 2 = .ok (.ldc_w 344, 3) := by decide +kernel
theorem dX8_isMinute_5 : decode cX8_isMinute 5 = .ok (.invokestatic 85, 3) := by decide +kernel
theorem dX8_isMinute_8 : decode cX8_isMinute 8 = .ok (.ireturn, 1) := by decide +kernel
theorem dX8_isTear_0 : decode cX8_isTear 0 = .ok (.iload_n 2, 1) := by decide +kernel
theorem dX8_isTear_1 : decode cX8_isTear 1 = .ok (.iconst (-1), 1) := by decide +kernel
theorem dX8_isTear_2 : decode cX8_isTear 2 = .ok (.if_icmp .ne 10, 3) := by decide +kernel
theorem dX8_isTear_5 : decode cX8_isTear 5 = .ok (.iload_n 3, 1) := by decide +kernel
theorem dX8_isTear_6 : decode cX8_isTear 6 = .ok (.iconst (-1), 1) := by decide +kernel
theorem dX8_isTear_7 : decode cX8_isTear 7 = .ok (.if_icmp .ne 5, 3) := by decide +kernel
theorem dX8_isTear_10 : decode cX8_isTear 10 = .ok (.iconst 1, 1) := by decide +kernel
theorem dX8_isTear_11 : decode cX8_isTear 11 = .ok (.ireturn, 1) := by decide +kernel
theorem dX8_isTear_12 : decode cX8_isTear 12 = .ok (.iload_n 2, 1) := by decide +kernel
theorem dX8_isTear_13 : decode cX8_isTear 13 = .ok (.ifCond .lt 14, 3) := by decide +kernel
theorem dX8_isTear_16 : decode cX8_isTear 16 = .ok (.iload_n 2, 1) := by decide +kernel
theorem dX8_isTear_17 : decode cX8_isTear 17 = .ok (.iload_n 3, 1) := by decide +kernel
theorem dX8_isTear_18 : decode cX8_isTear 18 = .ok (.if_icmp .gt 9, 3) := by decide +kernel
theorem dX8_isTear_21 : decode cX8_isTear 21 = .ok (.iload_n 3, 1) := by decide +kernel
theorem dX8_isTear_22 : decode cX8_isTear 22 = .ok (.bipush 40, 2) := by decide +kernel
theorem dX8_isTear_24 : decode cX8_isTear 24 = .ok (.if_icmp .lt 5, 3) := by decide +kernel
theorem dX8_isTear_27 : decode cX8_isTear 27 = .ok (.iconst 0, 1) := by decide +kernel
theorem dX8_isTear_28 : decode cX8_isTear 28 = .ok (.ireturn, 1) := by decide +kernel
theorem dX8_isTear_29 : decode cX8_isTear 29 = .ok (.aload_n 0, 1) := by decide +kernel
theorem dX8_isTear_30 : decode cX8_isTear 30 = .ok (.getfield 33, 3) := by decide +kernel
theorem dX8_isTear_33 : decode cX8_isTear 33 = .ok (.getfield 315, 3) := by decide +kernel
theorem dX8_isTear_36 : decode cX8_isTear 36 = .ok (.iload_n 1, 1) := by decide +kernel
theorem dX8_isTear_37 : decode cX8_isTear 37 = .ok (.iaload, 1) := by decide +kernel
theorem dX8_isTear_38 : decode cX8_isTear 38 = .ok (.iconst 1, 1) := by decide +kernel
theorem dX8_isTear_39 : decode cX8_isTear 39 = .ok (.if_icmp .ne 24, 3) := by decide +kernel
theorem dX8_isTear_42 : decode cX8_isTear 42 = .ok (.iload_n 3, 1) := by decide +kernel
theorem dX8_isTear_43 : decode cX8_isTear 43 = .ok (.aload_n 0, 1) := by decide +kernel
theorem dX8_isTear_44 : decode cX8_isTear 44 = .ok (.getfield 56, 3) := by decide +kernel
theorem dX8_isTear_47 : decode cX8_isTear 47 = .ok (.getfield 336, 3) := by decide +kernel
theorem dX8_isTear_50 : decode cX8_isTear 50 = .ok (.aload_n 0, 1) := by decide +kernel
theorem dX8_isTear_51 : decode cX8_isTear 51 = .ok (.getfield 33, 3) := by decide +kernel
theorem dX8_isTear_54 : decode cX8_isTear 54 = .ok (.getfield 257, 3) := by decide +kernel
theorem dX8_isTear_57 : decode cX8_isTear 57 = .ok (.iload_n 1, 1) := by decide +kernel
theorem dX8_isTear_58 : decode cX8_isTear 58 = .ok (.iaload, 1) := by decide +kernel
theorem dX8_isTear_59 : decode cX8_isTear 59 = .ok (.iaload, 1) := by decide +kernel
theorem dX8_isTear_60 : decode cX8_isTear 60 = .ok (.if_icmp .ge 7, 3) := by decide +kernel
theorem dX8_isTear_63 : decode cX8_isTear 63 = .ok (.iconst 1, 1) := by decide +kernel
theorem dX8_isTear_64 : decode cX8_isTear 64 = .ok (.goto 4, 3) := by decide +kernel
theorem dX8_isTear_67 : decode cX8_isTear 67 = .ok (.iconst 0, 1) := by decide +kernel
theorem dX8_isTear_68 : decode cX8_isTear 68 = .ok (.ireturn, 1) := by decide +kernel
theorem dX8_isTown_0 : decode cX8_isTown 0 = .ok (.iload_n 1, 1) := by decide +kernel
theorem dX8_isTown_1 : decode cX8_isTown 1 = .ok (.iconst 0, 1) := by decide +kernel
theorem dX8_isTown_2 : decode cX8_isTown 2 = .ok (.aload_n 0, 1) := by decide +kernel
theorem dX8_isTown_3 : decode cX8_isTown 3 = .ok (.getfield 26, 3) := by decide +kernel
theorem dX8_isTown_6 : decode cX8_isTown 6 = .ok (.getfield 121, 3) := by decide +kernel
theorem dX8_isTown_9 : decode cX8_isTown 9 = .ok (.iconst 1, 1) := by decide +kernel
theorem dX8_isTown_10 : decode cX8_isTown 10 = .ok (.isub, 1) := by decide +kernel
theorem dX8_isTown_11 : decode cX8_isTown 11 = .ok (.invokestatic 85, 3) := by decide +kernel
theorem dX8_isTown_14 : decode cX8_isTown 14 = .ok (.ireturn, 1) := by decide +kernel
theorem dX8_isTray_0 : decode cX8_isTray 0 = .ok (.iload_n 0, 1) := by decide +kernel
theorem dX8_isTray_1 : decode cX8_isTray 1 = .ok (.iconst 0, 1) := by decide +kernel
theorem dX8_isTray_2 : decode cX8_isTray 2 = .ok (.iconst 3, 1) := by decide +kernel
theorem dX8_isTray_3 : decode cX8_isTray 3 = .ok (.invokestatic 85, 3) := by decide +kernel
theorem dX8_isTray_6 : decode cX8_isTray 6 = .ok (.ireturn, 1) := by decide +kernel
theorem dX8_joined_0 : decode cX8_joined 0 = .ok (.aload_n 0, 1) := by decide +kernel
theorem dX8_joined_1 : decode cX8_joined 1 = .ok (.aload_n 0, 1) := by decide +kernel
theorem dX8_joined_2 : decode cX8_joined 2 = .ok (.iload_n 1, 1) := by decide +kernel
theorem dX8_joined_3 : decode cX8_joined 3 = .ok (.iload_n 2, 1) := by decide +kernel
theorem dX8_joined_4 : decode cX8_joined 4 = .ok (.iload_n 3, 1) := by decide +kernel
theorem dX8_joined_5 : decode cX8_joined 5 = .ok (.invokevirtual 281, 3) := by decide +kernel
theorem dX8_joined_8 : decode cX8_joined 8 = .ok (.putfield 67, 3) := by decide +kernel
theorem dX8_joined_11 : decode cX8_joined 11 = .ok (.aload_n 0, 1) := by decide +kernel
theorem dX8_joined_12 : decode cX8_joined 12 = .ok (.getfield 67, 3) := by decide +kernel
theorem dX8_joined_15 : decode cX8_joined 15 = .ok (.ifCond .eq 5, 3) := by decide +kernel
theorem dX8_joined_18 : decode cX8_joined 18 = .ok (.iconst (-1), 1) := by decide +kernel
theorem dX8_joined_19 : decode cX8_joined 19 = .ok (.ireturn, 1) := by decide +kernel
theorem dX8_joined_20 : decode cX8_joined 20 = .ok (.aload_n 0, 1) := by decide +kernel
theorem dX8_joined_21 : decode cX8_joined 21 = .ok (.getfield 56, 3) := by decide +kernel
theorem dX8_joined_24 : decode cX8_joined 24 = .ok (.iload_n 1, 1) := by decide +kernel
theorem dX8_joined_25 : decode cX8_joined 25 = .ok (.iload_n 2, 1) := by decide +kernel
theorem dX8_joined_26 : decode cX8_joined 26 = .ok (.iload_n 3, 1) := by decide +kernel
theorem dX8_joined_27 : decode cX8_joined 27 = .ok (.invokevirtual 284, 3) := by decide +kernel
theorem dX8_joined_30 : decode cX8_joined 30 = .ok (.ireturn, 1) := by decide +kernel
theorem dX8_joinedFault_0 : decode cX8_joinedFault 0 = .ok (.aload_n 0, 1) := by decide +kernel
theorem dX8_joinedFault_1 : decode cX8_joinedFault 1 = .ok (.iload_n 1, 1) := by decide +kernel
theorem dX8_joinedFault_2 : decode cX8_joinedFault 2 = .ok (.invokevirtual 275, 3) := by decide +kernel
theorem dX8_joinedFault_5 : decode cX8_joinedFault 5 = .ok (.ifCond .eq 11, 3) := by decide +kernel
theorem dX8_joinedFault_8 : decode cX8_joinedFault 8 = .ok (.aload_n 0, 1) := by decide +kernel
theorem dX8_joinedFault_9 : decode cX8_joinedFault 9 = .ok (.iload_n 2, 1) := by decide +kernel
theorem dX8_joinedFault_10 : decode cX8_joinedFault 10 = .ok (.invokevirtual 167, 3) := by decide +kernel
theorem dX8_joinedFault_13 : decode cX8_joinedFault 13 = .ok (.ifCond .ne 5, 3) := by decide +kernel
theorem dX8_joinedFault_16 : decode cX8_joinedFault 16 = .ok (.iconst 1, 1) := by decide +kernel
theorem dX8_joinedFault_17 : decode cX8_joinedFault 17 = .ok (.ireturn, 1) := by decide +kernel
theorem dX8_joinedFault_18 : decode cX8_joinedFault 18 = .ok (.iload_n 3, 1) := by decide +kernel
theorem dX8_joinedFault_19 : decode cX8_joinedFault 19 = .ok (.iconst 0, 1) := by decide +kernel
theorem dX8_joinedFault_20 : decode cX8_joinedFault 20 = .ok (.aload_n 0, 1) := by decide +kernel
theorem dX8_joinedFault_21 : decode cX8_joinedFault 21 = .ok (.getfield 56, 3) := by decide +kernel
theorem dX8_joinedFault_24 : decode cX8_joinedFault 24 = .ok (.getfield 336, 3) := by decide +kernel
theorem dX8_joinedFault_27 : decode cX8_joinedFault 27 = .ok (.iload_n 1, 1) := by decide +kernel
theorem dX8_joinedFault_28 : decode cX8_joinedFault 28 = .ok (.iaload, 1) := by decide +kernel
theorem dX8_joinedFault_29 : decode cX8_joinedFault 29 = .ok (.iconst 1, 1) := by decide +kernel
theorem dX8_joinedFault_30 : decode cX8_joinedFault 30 = .ok (.isub, 1) := by decide +kernel
theorem dX8_joinedFault_31 : decode cX8_joinedFault 31 = .ok (.invokestatic 85, 3) := by decide +kernel
theorem dX8_joinedFault_34 : decode cX8_joinedFault 34 = .ok (.ifCond .eq 7, 3) := by decide +kernel
theorem dX8_joinedFault_37 : decode cX8_joinedFault 37 = .ok (.iconst 0, 1) := by decide +kernel
theorem dX8_joinedFault_38 : decode cX8_joinedFault 38 = .ok (.goto 5, 3) := by decide +kernel
theorem dX8_joinedFault_41 : decode cX8_joinedFault 41 = .ok (.bipush 6, 2) := by decide +kernel
theorem dX8_joinedFault_43 : decode cX8_joinedFault 43 = .ok (.ireturn, 1) := by decide +kernel
theorem dX8_knows_0 : decode cX8_knows 0 = .ok (.aload_n 0, 1) := by decide +kernel
theorem dX8_knows_1 : decode cX8_knows 1 = .ok (.aload_n 0, 1) := by decide +kernel
theorem dX8_knows_2 : decode cX8_knows 2 = .ok (.iload_n 1, 1) := by decide +kernel
theorem dX8_knows_3 : decode cX8_knows 3 = .ok (.invokevirtual 275, 3) := by decide +kernel
theorem dX8_knows_6 : decode cX8_knows 6 = .ok (.ifCond .eq 15, 3) := by decide +kernel
theorem dX8_knows_9 : decode cX8_knows 9 = .ok (.aload_n 0, 1) := by decide +kernel
theorem dX8_knows_10 : decode cX8_knows 10 = .ok (.iload_n 2, 1) := by decide +kernel
theorem dX8_knows_11 : decode cX8_knows 11 = .ok (.invokevirtual 167, 3) := by decide +kernel
theorem dX8_knows_14 : decode cX8_knows 14 = .ok (.ifCond .eq 7, 3) := by decide +kernel
theorem dX8_knows_17 : decode cX8_knows 17 = .ok (.iconst 1, 1) := by decide +kernel
theorem dX8_knows_18 : decode cX8_knows 18 = .ok (.goto 4, 3) := by decide +kernel
theorem dX8_knows_21 : decode cX8_knows 21 = .ok (.iconst 0, 1) := by decide +kernel
theorem dX8_knows_22 : decode cX8_knows 22 = .ok (.invokestatic 89, 3) := by decide +kernel
theorem dX8_knows_25 : decode cX8_knows 25 = .ok (.putfield 67, 3) := by decide +kernel
theorem dX8_knows_28 : decode cX8_knows 28 = .ok (.aload_n 0, 1) := by decide +kernel
theorem dX8_knows_29 : decode cX8_knows 29 = .ok (.getfield 67, 3) := by decide +kernel
theorem dX8_knows_32 : decode cX8_knows 32 = .ok (.ifCond .eq 5, 3) := by decide +kernel
theorem dX8_knows_35 : decode cX8_knows 35 = .ok (.iconst (-1), 1) := by decide +kernel
theorem dX8_knows_36 : decode cX8_knows 36 = .ok (.ireturn, 1) := by decide +kernel
theorem dX8_knows_37 : decode cX8_knows 37 = .ok (.aload_n 0, 1) := by decide +kernel
theorem dX8_knows_38 : decode cX8_knows 38 = .ok (.getfield 56, 3) := by decide +kernel
theorem dX8_knows_41 : decode cX8_knows 41 = .ok (.getfield 278, 3) := by decide +kernel
theorem dX8_knows_44 : decode cX8_knows 44 = .ok (.iload_n 1, 1) := by decide +kernel
theorem dX8_knows_45 : decode cX8_knows 45 = .ok (.aaload, 1) := by decide +kernel
theorem dX8_knows_46 : decode cX8_knows 46 = .ok (.iload_n 2, 1) := by decide +kernel
theorem dX8_knows_47 : decode cX8_knows 47 = .ok (.iaload, 1) := by decide +kernel
theorem dX8_knows_48 : decode cX8_knows 48 = .ok (.istore_n 3, 1) := by decide +kernel
theorem dX8_knows_49 : decode cX8_knows 49 = .ok (.iload_n 3, 1) := by decide +kernel
theorem dX8_knows_50 : decode cX8_knows 50 = .ok (.iconst (-1), 1) := by decide +kernel
theorem dX8_knows_51 : decode cX8_knows 51 = .ok (.if_icmp .ne 9, 3) := by decide +kernel
theorem dX8_knows_54 : decode cX8_knows 54 = .ok (.aload_n 0, 1) := by decide +kernel
theorem dX8_knows_55 : decode cX8_knows 55 = .ok (.bipush 7, 2) := by decide +kernel
theorem dX8_knows_57 : decode cX8_knows 57 = .ok (.putfield 67, 3) := by decide +kernel
theorem dX8_knows_60 : decode cX8_knows 60 = .ok (.iload_n 3, 1) := by decide +kernel
theorem dX8_knows_61 : decode cX8_knows 61 = .ok (.ireturn, 1) := by decide +kernel
theorem dX8_lack_0 : decode cX8_lack 0 = .ok (.aload_n 0, 1) := by decide +kernel
theorem dX8_lack_1 : decode cX8_lack 1 = .ok (.aload_n 0, 1) := by decide +kernel
theorem dX8_lack_2 : decode cX8_lack 2 = .ok (.iload_n 1, 1) := by decide +kernel
theorem dX8_lack_3 : decode cX8_lack 3 = .ok (.iload_n 2, 1) := by decide +kernel
theorem dX8_lack_4 : decode cX8_lack 4 = .ok (.invokevirtual 136, 3) := by decide +kernel
theorem dX8_lack_7 : decode cX8_lack 7 = .ok (.invokestatic 89, 3) := by decide +kernel
theorem dX8_lack_10 : decode cX8_lack 10 = .ok (.putfield 67, 3) := by decide +kernel
theorem dX8_lack_13 : decode cX8_lack 13 = .ok (.aload_n 0, 1) := by decide +kernel
theorem dX8_lack_14 : decode cX8_lack 14 = .ok (.getfield 67, 3) := by decide +kernel
theorem dX8_lack_17 : decode cX8_lack 17 = .ok (.ifCond .eq 5, 3) := by decide +kernel
theorem dX8_lack_20 : decode cX8_lack 20 = .ok (.iconst (-1), 1) := by decide +kernel
theorem dX8_lack_21 : decode cX8_lack 21 = .ok (.ireturn, 1) := by decide +kernel
theorem dX8_lack_22 : decode cX8_lack 22 = .ok (.aload_n 0, 1) := by decide +kernel
theorem dX8_lack_23 : decode cX8_lack 23 = .ok (.getfield 49, 3) := by decide +kernel
theorem dX8_lack_26 : decode cX8_lack 26 = .ok (.iload_n 1, 1) := by decide +kernel
theorem dX8_lack_27 : decode cX8_lack 27 = .ok (.iload_n 2, 1) := by decide +kernel
theorem dX8_lack_28 : decode cX8_lack 28 = .ok (.invokevirtual 221, 3) := by decide +kernel
theorem dX8_lack_31 : decode cX8_lack 31 = .ok (.ireturn, 1) := by decide +kernel
theorem dX8_leg_0 : decode cX8_leg 0 = .ok (.aload_n 0, 1) := by decide +kernel
theorem dX8_leg_1 : decode cX8_leg 1 = .ok (.aload_n 0, 1) := by decide +kernel
theorem dX8_leg_2 : decode cX8_leg 2 = .ok (.iload_n 1, 1) := by decide +kernel
theorem dX8_leg_3 : decode cX8_leg 3 = .ok (.iload_n 2, 1) := by decide +kernel
theorem dX8_leg_4 : decode cX8_leg 4 = .ok (.invokevirtual 205, 3) := by decide +kernel
theorem dX8_leg_7 : decode cX8_leg 7 = .ok (.putfield 67, 3) := by decide +kernel
theorem dX8_leg_10 : decode cX8_leg 10 = .ok (.aload_n 0, 1) := by decide +kernel
theorem dX8_leg_11 : decode cX8_leg 11 = .ok (.getfield 67, 3) := by decide +kernel
theorem dX8_leg_14 : decode cX8_leg 14 = .ok (.ifCond .eq 5, 3) := by decide +kernel
theorem dX8_leg_17 : decode cX8_leg 17 = .ok (.iconst (-1), 1) := by decide +kernel
theorem dX8_leg_18 : decode cX8_leg 18 = .ok (.ireturn, 1) := by decide +kernel
theorem dX8_leg_19 : decode cX8_leg 19 = .ok (.iload_n 2, 1) := by decide +kernel
theorem dX8_leg_20 : decode cX8_leg 20 = .ok (.iconst 2, 1) := by decide +kernel
theorem dX8_leg_21 : decode cX8_leg 21 = .ok (.if_icmp .ne 13, 3) := by decide +kernel
theorem dX8_leg_24 : decode cX8_leg 24 = .ok (.aload_n 0, 1) := by decide +kernel
theorem dX8_leg_25 : decode cX8_leg 25 = .ok (.getfield 42, 3) := by decide +kernel
theorem dX8_leg_28 : decode cX8_leg 28 = .ok (.getfield 208, 3) := by decide +kernel
theorem dX8_leg_31 : decode cX8_leg 31 = .ok (.iload_n 1, 1) := by decide +kernel
theorem dX8_leg_32 : decode cX8_leg 32 = .ok (.iaload, 1) := by decide +kernel
theorem dX8_leg_33 : decode cX8_leg 33 = .ok (.ireturn, 1) := by decide +kernel
theorem dX8_leg_34 : decode cX8_leg 34 = .ok (.aload_n 0, 1) := by decide +kernel
theorem dX8_leg_35 : decode cX8_leg 35 = .ok (.getfield 42, 3) := by decide +kernel
theorem dX8_leg_38 : decode cX8_leg 38 = .ok (.getfield 212, 3) := by decide +kernel
theorem dX8_leg_41 : decode cX8_leg 41 = .ok (.iload_n 1, 1) := by decide +kernel
theorem dX8_leg_42 : decode cX8_leg 42 = .ok (.iload_n 2, 1) := by decide +kernel
theorem dX8_leg_43 : decode cX8_leg 43 = .ok (.iadd, 1) := by decide +kernel
theorem dX8_leg_44 : decode cX8_leg 44 = .ok (.iaload, 1) := by decide +kernel
theorem dX8_leg_45 : decode cX8_leg 45 = .ok (.ireturn, 1) := by decide +kernel
theorem dX8_legFault_0 : decode cX8_legFault 0 = .ok (.iload_n 1, 1) := by decide +kernel
theorem dX8_legFault_1 : decode cX8_legFault 1 = .ok (.iconst 0, 1) := by decide +kernel
theorem dX8_legFault_2 : decode cX8_legFault 2 = .ok (.iconst 2, 1) := by decide +kernel
theorem dX8_legFault_3 : decode cX8_legFault 3 = .ok (.invokestatic 85, 3) := by decide +kernel
theorem dX8_legFault_6 : decode cX8_legFault 6 = .ok (.ifCond .eq 12, 3) := by decide +kernel
theorem dX8_legFault_9 : decode cX8_legFault 9 = .ok (.iload_n 2, 1) := by decide +kernel
theorem dX8_legFault_10 : decode cX8_legFault 10 = .ok (.iconst 0, 1) := by decide +kernel
theorem dX8_legFault_11 : decode cX8_legFault 11 = .ok (.iconst 2, 1) := by decide +kernel
theorem dX8_legFault_12 : decode cX8_legFault 12 = .ok (.invokestatic 85, 3) := by decide +kernel
theorem dX8_legFault_15 : decode cX8_legFault 15 = .ok (.ifCond .ne 5, 3) := by decide +kernel
theorem dX8_legFault_18 : decode cX8_legFault 18 = .ok (.iconst 1, 1) := by decide +kernel
theorem dX8_legFault_19 : decode cX8_legFault 19 = .ok (.ireturn, 1) := by decide +kernel
theorem dX8_legFault_20 : decode cX8_legFault 20 = .ok (.iload_n 1, 1) := by decide +kernel
theorem dX8_legFault_21 : decode cX8_legFault 21 = .ok (.aload_n 0, 1) := by decide +kernel
theorem dX8_legFault_22 : decode cX8_legFault 22 = .ok (.getfield 42, 3) := by decide +kernel
theorem dX8_legFault_25 : decode cX8_legFault 25 = .ok (.getfield 318, 3) := by decide +kernel
theorem dX8_legFault_28 : decode cX8_legFault 28 = .ok (.if_icmp .ge 7, 3) := by decide +kernel
theorem dX8_legFault_31 : decode cX8_legFault 31 = .ok (.iconst 0, 1) := by decide +kernel
theorem dX8_legFault_32 : decode cX8_legFault 32 = .ok (.goto 5, 3) := by decide +kernel
theorem dX8_legFault_35 : decode cX8_legFault 35 = .ok (.bipush 6, 2) := by decide +kernel
theorem dX8_legFault_37 : decode cX8_legFault 37 = .ok (.ireturn, 1) := by decide +kernel
theorem dX8_letter_0 : decode cX8_letter 0 = .ok (.aload_n 0, 1) := by decide +kernel
theorem dX8_letter_1 : decode cX8_letter 1 = .ok (.aload_n 0, 1) := by decide +kernel
theorem dX8_letter_2 : decode cX8_letter 2 = .ok (.iload_n 1, 1) := by decide +kernel
theorem dX8_letter_3 : decode cX8_letter 3 = .ok (.iload_n 2, 1) := by decide +kernel
theorem dX8_letter_4 : decode cX8_letter 4 = .ok (.iload_n 3, 1) := by decide +kernel
theorem dX8_letter_5 : decode cX8_letter 5 = .ok (.iload 4, 2) := by decide +kernel
theorem dX8_letter_7 : decode cX8_letter 7 = .ok (.invokevirtual 239, 3) := by decide +kernel
theorem dX8_letter_10 : decode cX8_letter 10 = .ok (.putfield 67, 3) := by decide +kernel
theorem dX8_letter_13 : decode cX8_letter 13 = .ok (.aload_n 0, 1) := by decide +kernel
theorem dX8_letter_14 : decode cX8_letter 14 = .ok (.getfield 67, 3) := by decide +kernel
theorem dX8_letter_17 : decode cX8_letter 17 = .ok (.ifCond .eq 5, 3) := by decide +kernel
theorem dX8_letter_20 : decode cX8_letter 20 = .ok (.iconst (-1), 1) := by decide +kernel
theorem dX8_letter_21 : decode cX8_letter 21 = .ok (.ireturn, 1) := by decide +kernel
theorem dX8_letter_22 : decode cX8_letter 22 = .ok (.aload_n 0, 1) := by decide +kernel
theorem dX8_letter_23 : decode cX8_letter 23 = .ok (.iload 4, 2) := by decide +kernel
theorem dX8_letter_25 : decode cX8_letter 25 = .ok (.putfield 71, 3) := by decide +kernel
theorem dX8_letter_28 : decode cX8_letter 28 = .ok (.aload_n 0, 1) := by decide +kernel
theorem dX8_letter_29 : decode cX8_letter 29 = .ok (.getfield 56, 3) := by decide +kernel
theorem dX8_letter_32 : decode cX8_letter 32 = .ok (.iload_n 1, 1) := by decide +kernel
theorem dX8_letter_33 : decode cX8_letter 33 = .ok (.aload_n 0, 1) := by decide +kernel
theorem dX8_letter_34 : decode cX8_letter 34 = .ok (.getfield 19, 3) := by decide +kernel
theorem dX8_letter_37 : decode cX8_letter 37 = .ok (.getfield 107, 3) := by decide +kernel
theorem dX8_letter_40 : decode cX8_letter 40 = .ok (.iload_n 2, 1) := by decide +kernel
theorem dX8_letter_41 : decode cX8_letter 41 = .ok (.aaload, 1) := by decide +kernel
theorem dX8_letter_42 : decode cX8_letter 42 = .ok (.iload_n 3, 1) := by decide +kernel
theorem dX8_letter_43 : decode cX8_letter 43 = .ok (.iload 4, 2) := by decide +kernel
theorem dX8_letter_45 : decode cX8_letter 45 = .ok (.invokevirtual 242, 3) := by decide +kernel
theorem dX8_letter_48 : decode cX8_letter 48 = .ok (.ireturn, 1) := by decide +kernel
theorem dX8_letterFault_0 : decode cX8_letterFault 0 = .ok (.aload_n 0, 1) := by decide +kernel
theorem dX8_letterFault_1 : decode cX8_letterFault 1 = .ok (.iload_n 1, 1) := by decide +kernel
theorem dX8_letterFault_2 : decode cX8_letterFault 2 = .ok (.invokevirtual 167, 3) := by decide +kernel
theorem dX8_letterFault_5 : decode cX8_letterFault 5 = .ok (.ifCond .eq 10, 3) := by decide +kernel
theorem dX8_letterFault_8 : decode cX8_letterFault 8 = .ok (.iload_n 2, 1) := by decide +kernel
theorem dX8_letterFault_9 : decode cX8_letterFault 9 = .ok (.invokestatic 81, 3) := by decide +kernel
theorem dX8_letterFault_12 : decode cX8_letterFault 12 = .ok (.ifCond .ne 5, 3) := by decide +kernel
theorem dX8_letterFault_15 : decode cX8_letterFault 15 = .ok (.iconst 1, 1) := by decide +kernel
theorem dX8_letterFault_16 : decode cX8_letterFault 16 = .ok (.ireturn, 1) := by decide +kernel
theorem dX8_letterFault_17 : decode cX8_letterFault 17 = .ok (.iload_n 3, 1) := by decide +kernel
theorem dX8_letterFault_18 : decode cX8_letterFault 18 = .ok (.iconst 1, 1) := by decide +kernel
theorem dX8_letterFault_19 : decode cX8_letterFault 19 = .ok (.bipush 40, 2) := by decide +kernel
theorem dX8_letterFault_21 : decode cX8_letterFault 21 = .ok (.invokestatic 85, 3) := by decide +kernel
theorem dX8_letterFault_24 : decode cX8_letterFault 24 = .ok (.ifCond .eq 11, 3) := by decide +kernel
theorem dX8_letterFault_27 : decode cX8_letterFault 27 = .ok (.iload 4, 2) := by decide +kernel
theorem dX8_letterFault_29 : decode cX8_letterFault 29 = .ok (.invokestatic 321, 3) := by decide +kernel
theorem dX8_letterFault_32 : decode cX8_letterFault 32 = .ok (.ifCond .ne 5, 3) := by decide +kernel
theorem dX8_letterFault_35 : decode cX8_letterFault 35 = .ok (.iconst 1, 1) := by decide +kernel
theorem dX8_letterFault_36 : decode cX8_letterFault 36 = .ok (.ireturn, 1) := by decide +kernel
theorem dX8_letterFault_37 : decode cX8_letterFault 37 = .ok (.iload 4, 2) := by decide +kernel
theorem dX8_letterFault_39 : decode cX8_letterFault 39 = .ok (.aload_n 0, 1) := by decide +kernel
theorem dX8_letterFault_40 : decode cX8_letterFault 40 = .ok (.getfield 71, 3) := by decide +kernel
theorem dX8_letterFault_43 : decode cX8_letterFault 43 = .ok (.if_icmp .ge 5, 3) := by decide +kernel
theorem dX8_letterFault_46 : decode cX8_letterFault 46 = .ok (.iconst 2, 1) := by decide +kernel
theorem dX8_letterFault_47 : decode cX8_letterFault 47 = .ok (.ireturn, 1) := by decide +kernel
theorem dX8_letterFault_48 : decode cX8_letterFault 48 = .ok (.aload_n 0, 1) := by decide +kernel
theorem dX8_letterFault_49 : decode cX8_letterFault 49 = .ok (.getfield 19, 3) := by decide +kernel
theorem dX8_letterFault_52 : decode cX8_letterFault 52 = .ok (.iload_n 2, 1) := by decide +kernel
theorem dX8_letterFault_53 : decode cX8_letterFault 53 = .ok (.invokevirtual 299, 3) := by decide +kernel
theorem dX8_letterFault_56 : decode cX8_letterFault 56 = .ok (.ifCond .eq 5, 3) := by decide +kernel
theorem dX8_letterFault_59 : decode cX8_letterFault 59 = .ok (.iconst 3, 1) := by decide +kernel
theorem dX8_letterFault_60 : decode cX8_letterFault 60 = .ok (.ireturn, 1) := by decide +kernel
theorem dX8_letterFault_61 : decode cX8_letterFault 61 = .ok (.iload_n 3, 1) := by decide +kernel
theorem dX8_letterFault_62 : decode cX8_letterFault 62 = .ok (.aload_n 0, 1) := by decide +kernel
theorem dX8_letterFault_63 : decode cX8_letterFault 63 = .ok (.getfield 19, 3) := by decide +kernel
theorem dX8_letterFault_66 : decode cX8_letterFault 66 = .ok (.getfield 302, 3) := by decide +kernel
theorem dX8_letterFault_69 : decode cX8_letterFault 69 = .ok (.iload_n 2, 1) := by decide +kernel
theorem dX8_letterFault_70 : decode cX8_letterFault 70 = .ok (.iaload, 1) := by decide +kernel
theorem dX8_letterFault_71 : decode cX8_letterFault 71 = .ok (.if_icmp .le 5, 3) := by decide +kernel
theorem dX8_letterFault_74 : decode cX8_letterFault 74 = .ok (.iconst 4, 1) := by decide +kernel
theorem dX8_letterFault_75 : decode cX8_letterFault 75 = .ok (.ireturn, 1) := by decide +kernel
theorem dX8_letterFault_76 : decode cX8_letterFault 76 = .ok (.aload_n 0, 1) := by decide +kernel
theorem dX8_letterFault_77 : decode cX8_letterFault 77 = .ok (.getfield 19, 3) := by decide +kernel
theorem dX8_letterFault_80 : decode cX8_letterFault 80 = .ok (.iload_n 2, 1) := by decide +kernel
theorem dX8_letterFault_81 : decode cX8_letterFault 81 = .ok (.iload_n 3, 1) := by decide +kernel
theorem dX8_letterFault_82 : decode cX8_letterFault 82 = .ok (.invokevirtual 324, 3) := by decide +kernel
theorem dX8_letterFault_85 : decode cX8_letterFault 85 = .ok (.ifCond .ne 5, 3) := by decide +kernel
theorem dX8_letterFault_88 : decode cX8_letterFault 88 = .ok (.iconst 1, 1) := by decide +kernel
theorem dX8_letterFault_89 : decode cX8_letterFault 89 = .ok (.ireturn, 1) := by decide +kernel
theorem dX8_letterFault_90 : decode cX8_letterFault 90 = .ok (.aload_n 0, 1) := by decide +kernel
theorem dX8_letterFault_91 : decode cX8_letterFault 91 = .ok (.getfield 56, 3) := by decide +kernel
theorem dX8_letterFault_94 : decode cX8_letterFault 94 = .ok (.getfield 327, 3) := by decide +kernel
theorem dX8_letterFault_97 : decode cX8_letterFault 97 = .ok (.bipush 40, 2) := by decide +kernel
theorem dX8_letterFault_99 : decode cX8_letterFault 99 = .ok (.if_icmp .ge 7, 3) := by decide +kernel
theorem dX8_letterFault_102 : decode cX8_letterFault 102 = .ok (.iconst 0, 1) := by decide +kernel
theorem dX8_letterFault_103 : decode cX8_letterFault 103 = .ok (.goto 4, 3) := by decide +kernel
theorem dX8_letterFault_106 : decode cX8_letterFault 106 = .ok (.iconst 5, 1) := by decide +kernel
theorem dX8_letterFault_107 : decode cX8_letterFault 107 = .ok (.ireturn, 1) := by decide +kernel
theorem dX8_lose_0 : decode cX8_lose 0 = .ok (.aload_n 0, 1) := by decide +kernel
theorem dX8_lose_1 : decode cX8_lose 1 = .ok (.aload_n 0, 1) := by decide +kernel
theorem dX8_lose_2 : decode cX8_lose 2 = .ok (.iload_n 1, 1) := by decide +kernel
theorem dX8_lose_3 : decode cX8_lose 3 = .ok (.iload_n 2, 1) := by decide +kernel
theorem dX8_lose_4 : decode cX8_lose 4 = .ok (.invokevirtual 269, 3) := by decide +kernel
theorem dX8_lose_7 : decode cX8_lose 7 = .ok (.putfield 67, 3) := by decide +kernel
theorem dX8_lose_10 : decode cX8_lose 10 = .ok (.aload_n 0, 1) := by decide +kernel
theorem dX8_lose_11 : decode cX8_lose 11 = .ok (.getfield 67, 3) := by decide +kernel
theorem dX8_lose_14 : decode cX8_lose 14 = .ok (.ifCond .eq 5, 3) := by decide +kernel
theorem dX8_lose_17 : decode cX8_lose 17 = .ok (.iconst 0, 1) := by decide +kernel
theorem dX8_lose_18 : decode cX8_lose 18 = .ok (.ireturn, 1) := by decide +kernel
theorem dX8_lose_19 : decode cX8_lose 19 = .ok (.aload_n 0, 1) := by decide +kernel
theorem dX8_lose_20 : decode cX8_lose 20 = .ok (.iload_n 2, 1) := by decide +kernel
theorem dX8_lose_21 : decode cX8_lose 21 = .ok (.putfield 71, 3) := by decide +kernel
theorem dX8_lose_24 : decode cX8_lose 24 = .ok (.aload_n 0, 1) := by decide +kernel
theorem dX8_lose_25 : decode cX8_lose 25 = .ok (.getfield 56, 3) := by decide +kernel
theorem dX8_lose_28 : decode cX8_lose 28 = .ok (.getfield 251, 3) := by decide +kernel
theorem dX8_lose_31 : decode cX8_lose 31 = .ok (.aload_n 0, 1) := by decide +kernel
theorem dX8_lose_32 : decode cX8_lose 32 = .ok (.getfield 33, 3) := by decide +kernel
theorem dX8_lose_35 : decode cX8_lose 35 = .ok (.getfield 257, 3) := by decide +kernel
theorem dX8_lose_38 : decode cX8_lose 38 = .ok (.iload_n 1, 1) := by decide +kernel
theorem dX8_lose_39 : decode cX8_lose 39 = .ok (.iaload, 1) := by decide +kernel
theorem dX8_lose_40 : decode cX8_lose 40 = .ok (.aaload, 1) := by decide +kernel
theorem dX8_lose_41 : decode cX8_lose 41 = .ok (.iconst 2, 1) := by decide +kernel
theorem dX8_lose_42 : decode cX8_lose 42 = .ok (.dup2, 1) := by decide +kernel
theorem dX8_lose_43 : decode cX8_lose 43 = .ok (.iaload, 1) := by decide +kernel
theorem dX8_lose_44 : decode cX8_lose 44 = .ok (.iconst 1, 1) := by decide +kernel
theorem dX8_lose_45 : decode cX8_lose 45 = .ok (.iadd, 1) := by decide +kernel
theorem dX8_lose_46 : decode cX8_lose 46 = .ok (.iastore, 1) := by decide +kernel
theorem dX8_lose_47 : decode cX8_lose 47 = .ok (.aload_n 0, 1) := by decide +kernel
theorem dX8_lose_48 : decode cX8_lose 48 = .ok (.getfield 33, 3) := by decide +kernel
theorem dX8_lose_51 : decode cX8_lose 51 = .ok (.iload_n 1, 1) := by decide +kernel
theorem dX8_lose_52 : decode cX8_lose 52 = .ok (.invokevirtual 272, 3) := by decide +kernel
theorem dX8_lose_55 : decode cX8_lose 55 = .ok (.iconst 1, 1) := by decide +kernel
theorem dX8_lose_56 : decode cX8_lose 56 = .ok (.ireturn, 1) := by decide +kernel
theorem dX8_loseFault_0 : decode cX8_loseFault 0 = .ok (.aload_n 0, 1) := by decide +kernel
theorem dX8_loseFault_1 : decode cX8_loseFault 1 = .ok (.iload_n 1, 1) := by decide +kernel
theorem dX8_loseFault_2 : decode cX8_loseFault 2 = .ok (.invokevirtual 161, 3) := by decide +kernel
theorem dX8_loseFault_5 : decode cX8_loseFault 5 = .ok (.ifCond .eq 10, 3) := by decide +kernel
theorem dX8_loseFault_8 : decode cX8_loseFault 8 = .ok (.iload_n 2, 1) := by decide +kernel
theorem dX8_loseFault_9 : decode cX8_loseFault 9 = .ok (.invokestatic 321, 3) := by decide +kernel
theorem dX8_loseFault_12 : decode cX8_loseFault 12 = .ok (.ifCond .ne 5, 3) := by decide +kernel
theorem dX8_loseFault_15 : decode cX8_loseFault 15 = .ok (.iconst 1, 1) := by decide +kernel
theorem dX8_loseFault_16 : decode cX8_loseFault 16 = .ok (.ireturn, 1) := by decide +kernel
theorem dX8_loseFault_17 : decode cX8_loseFault 17 = .ok (.iload_n 2, 1) := by decide +kernel
theorem dX8_loseFault_18 : decode cX8_loseFault 18 = .ok (.aload_n 0, 1) := by decide +kernel
theorem dX8_loseFault_19 : decode cX8_loseFault 19 = .ok (.getfield 71, 3) := by decide +kernel
theorem dX8_loseFault_22 : decode cX8_loseFault 22 = .ok (.if_icmp .ge 5, 3) := by decide +kernel
theorem dX8_loseFault_25 : decode cX8_loseFault 25 = .ok (.iconst 2, 1) := by decide +kernel
theorem dX8_loseFault_26 : decode cX8_loseFault 26 = .ok (.ireturn, 1) := by decide +kernel
theorem dX8_loseFault_27 : decode cX8_loseFault 27 = .ok (.aload_n 0, 1) := by decide +kernel
theorem dX8_loseFault_28 : decode cX8_loseFault 28 = .ok (.getfield 33, 3) := by decide +kernel
theorem dX8_loseFault_31 : decode cX8_loseFault 31 = .ok (.getfield 315, 3) := by decide +kernel
theorem dX8_loseFault_34 : decode cX8_loseFault 34 = .ok (.iload_n 1, 1) := by decide +kernel
theorem dX8_loseFault_35 : decode cX8_loseFault 35 = .ok (.iaload, 1) := by decide +kernel
theorem dX8_loseFault_36 : decode cX8_loseFault 36 = .ok (.iconst 1, 1) := by decide +kernel
theorem dX8_loseFault_37 : decode cX8_loseFault 37 = .ok (.if_icmp .ne 7, 3) := by decide +kernel
theorem dX8_loseFault_40 : decode cX8_loseFault 40 = .ok (.iconst 0, 1) := by decide +kernel
theorem dX8_loseFault_41 : decode cX8_loseFault 41 = .ok (.goto 5, 3) := by decide +kernel
theorem dX8_loseFault_44 : decode cX8_loseFault 44 = .ok (.bipush 7, 2) := by decide +kernel
theorem dX8_loseFault_46 : decode cX8_loseFault 46 = .ok (.ireturn, 1) := by decide +kernel
theorem dX8_placeFault_0 : decode cX8_placeFault 0 = .ok (.iload_n 1, 1) := by decide +kernel
theorem dX8_placeFault_1 : decode cX8_placeFault 1 = .ok (.invokestatic 81, 3) := by decide +kernel
theorem dX8_placeFault_4 : decode cX8_placeFault 4 = .ok (.ifCond .ne 5, 3) := by decide +kernel
theorem dX8_placeFault_7 : decode cX8_placeFault 7 = .ok (.iconst 1, 1) := by decide +kernel
theorem dX8_placeFault_8 : decode cX8_placeFault 8 = .ok (.ireturn, 1) := by decide +kernel
theorem dX8_placeFault_9 : decode cX8_placeFault 9 = .ok (.aload_n 0, 1) := by decide +kernel
theorem dX8_placeFault_10 : decode cX8_placeFault 10 = .ok (.getfield 19, 3) := by decide +kernel
theorem dX8_placeFault_13 : decode cX8_placeFault 13 = .ok (.iload_n 1, 1) := by decide +kernel
theorem dX8_placeFault_14 : decode cX8_placeFault 14 = .ok (.invokevirtual 299, 3) := by decide +kernel
theorem dX8_placeFault_17 : decode cX8_placeFault 17 = .ok (.ifCond .eq 5, 3) := by decide +kernel
theorem dX8_placeFault_20 : decode cX8_placeFault 20 = .ok (.iconst 3, 1) := by decide +kernel
theorem dX8_placeFault_21 : decode cX8_placeFault 21 = .ok (.ireturn, 1) := by decide +kernel
theorem dX8_placeFault_22 : decode cX8_placeFault 22 = .ok (.iload_n 2, 1) := by decide +kernel
theorem dX8_placeFault_23 : decode cX8_placeFault 23 = .ok (.iconst 0, 1) := by decide +kernel
theorem dX8_placeFault_24 : decode cX8_placeFault 24 = .ok (.aload_n 0, 1) := by decide +kernel
theorem dX8_placeFault_25 : decode cX8_placeFault 25 = .ok (.getfield 19, 3) := by decide +kernel
theorem dX8_placeFault_28 : decode cX8_placeFault 28 = .ok (.getfield 302, 3) := by decide +kernel
theorem dX8_placeFault_31 : decode cX8_placeFault 31 = .ok (.iload_n 1, 1) := by decide +kernel
theorem dX8_placeFault_32 : decode cX8_placeFault 32 = .ok (.iaload, 1) := by decide +kernel
theorem dX8_placeFault_33 : decode cX8_placeFault 33 = .ok (.iconst 1, 1) := by decide +kernel
theorem dX8_placeFault_34 : decode cX8_placeFault 34 = .ok (.isub, 1) := by decide +kernel
theorem dX8_placeFault_35 : decode cX8_placeFault 35 = .ok (.invokestatic 85, 3) := by decide +kernel
theorem dX8_placeFault_38 : decode cX8_placeFault 38 = .ok (.ifCond .eq 7, 3) := by decide +kernel
theorem dX8_placeFault_41 : decode cX8_placeFault 41 = .ok (.iconst 0, 1) := by decide +kernel
theorem dX8_placeFault_42 : decode cX8_placeFault 42 = .ok (.goto 4, 3) := by decide +kernel
theorem dX8_placeFault_45 : decode cX8_placeFault 45 = .ok (.iconst 4, 1) := by decide +kernel
theorem dX8_placeFault_46 : decode cX8_placeFault 46 = .ok (.ireturn, 1) := by decide +kernel
theorem dX8_pour_0 : decode cX8_pour 0 = .ok (.aload_n 0, 1) := by decide +kernel
theorem dX8_pour_1 : decode cX8_pour 1 = .ok (.aload_n 0, 1) := by decide +kernel
theorem dX8_pour_2 : decode cX8_pour 2 = .ok (.iload_n 1, 1) := by decide +kernel
theorem dX8_pour_3 : decode cX8_pour 3 = .ok (.iload_n 2, 1) := by decide +kernel
theorem dX8_pour_4 : decode cX8_pour 4 = .ok (.iload_n 3, 1) := by decide +kernel
theorem dX8_pour_5 : decode cX8_pour 5 = .ok (.iload 4, 2) := by decide +kernel
theorem dX8_pour_7 : decode cX8_pour 7 = .ok (.iload 5, 2) := by decide +kernel
theorem dX8_pour_9 : decode cX8_pour 9 = .ok (.invokevirtual 111, 3) := by decide +kernel
theorem dX8_pour_12 : decode cX8_pour 12 = .ok (.putfield 67, 3) := by decide +kernel
theorem dX8_pour_15 : decode cX8_pour 15 = .ok (.aload_n 0, 1) := by decide +kernel
theorem dX8_pour_16 : decode cX8_pour 16 = .ok (.getfield 67, 3) := by decide +kernel
theorem dX8_pour_19 : decode cX8_pour 19 = .ok (.ifCond .eq 5, 3) := by decide +kernel
theorem dX8_pour_22 : decode cX8_pour 22 = .ok (.iconst 0, 1) := by decide +kernel
theorem dX8_pour_23 : decode cX8_pour 23 = .ok (.ireturn, 1) := by decide +kernel
theorem dX8_pour_24 : decode cX8_pour 24 = .ok (.aload_n 0, 1) := by decide +kernel
theorem dX8_pour_25 : decode cX8_pour 25 = .ok (.getfield 19, 3) := by decide +kernel
theorem dX8_pour_28 : decode cX8_pour 28 = .ok (.getfield 107, 3) := by decide +kernel
theorem dX8_pour_31 : decode cX8_pour 31 = .ok (.iload_n 1, 1) := by decide +kernel
theorem dX8_pour_32 : decode cX8_pour 32 = .ok (.aaload, 1) := by decide +kernel
theorem dX8_pour_33 : decode cX8_pour 33 = .ok (.iload_n 2, 1) := by decide +kernel
theorem dX8_pour_34 : decode cX8_pour 34 = .ok (.aload_n 0, 1) := by decide +kernel
theorem dX8_pour_35 : decode cX8_pour 35 = .ok (.getfield 19, 3) := by decide +kernel
theorem dX8_pour_38 : decode cX8_pour 38 = .ok (.getfield 107, 3) := by decide +kernel
theorem dX8_pour_41 : decode cX8_pour 41 = .ok (.iload_n 3, 1) := by decide +kernel
theorem dX8_pour_42 : decode cX8_pour 42 = .ok (.aaload, 1) := by decide +kernel
theorem dX8_pour_43 : decode cX8_pour 43 = .ok (.iload 4, 2) := by decide +kernel
theorem dX8_pour_45 : decode cX8_pour 45 = .ok (.iload 5, 2) := by decide +kernel
theorem dX8_pour_47 : decode cX8_pour 47 = .ok (.invokestatic 115, 3) := by decide +kernel
theorem dX8_pour_50 : decode cX8_pour 50 = .ok (.iconst 1, 1) := by decide +kernel
theorem dX8_pour_51 : decode cX8_pour 51 = .ok (.ireturn, 1) := by decide +kernel
theorem dX8_pourFault_0 : decode cX8_pourFault 0 = .ok (.iload_n 1, 1) := by decide +kernel
theorem dX8_pourFault_1 : decode cX8_pourFault 1 = .ok (.invokestatic 81, 3) := by decide +kernel
theorem dX8_pourFault_4 : decode cX8_pourFault 4 = .ok (.ifCond .eq 24, 3) := by decide +kernel
theorem dX8_pourFault_7 : decode cX8_pourFault 7 = .ok (.iload_n 3, 1) := by decide +kernel
theorem dX8_pourFault_8 : decode cX8_pourFault 8 = .ok (.invokestatic 81, 3) := by decide +kernel
theorem dX8_pourFault_11 : decode cX8_pourFault 11 = .ok (.ifCond .eq 17, 3) := by decide +kernel
theorem dX8_pourFault_14 : decode cX8_pourFault 14 = .ok (.iload_n 2, 1) := by decide +kernel
theorem dX8_pourFault_15 : decode cX8_pourFault 15 = .ok (.ifCond .lt 13, 3) := by decide +kernel
theorem dX8_pourFault_18 : decode cX8_pourFault 18 = .ok (.iload 4, 2) := by decide +kernel
theorem dX8_pourFault_20 : decode cX8_pourFault 20 = .ok (.ifCond .lt 8, 3) := by decide +kernel
theorem dX8_pourFault_23 : decode cX8_pourFault 23 = .ok (.iload 5, 2) := by decide +kernel
theorem dX8_pourFault_25 : decode cX8_pourFault 25 = .ok (.ifCond .ge 5, 3) := by decide +kernel
theorem dX8_pourFault_28 : decode cX8_pourFault 28 = .ok (.iconst 1, 1) := by decide +kernel
theorem dX8_pourFault_29 : decode cX8_pourFault 29 = .ok (.ireturn, 1) := by decide +kernel
theorem dX8_pourFault_30 : decode cX8_pourFault 30 = .ok (.aload_n 0, 1) := by decide +kernel
theorem dX8_pourFault_31 : decode cX8_pourFault 31 = .ok (.getfield 19, 3) := by decide +kernel
theorem dX8_pourFault_34 : decode cX8_pourFault 34 = .ok (.iload_n 1, 1) := by decide +kernel
theorem dX8_pourFault_35 : decode cX8_pourFault 35 = .ok (.invokevirtual 299, 3) := by decide +kernel
theorem dX8_pourFault_38 : decode cX8_pourFault 38 = .ok (.ifCond .ne 14, 3) := by decide +kernel
theorem dX8_pourFault_41 : decode cX8_pourFault 41 = .ok (.aload_n 0, 1) := by decide +kernel
theorem dX8_pourFault_42 : decode cX8_pourFault 42 = .ok (.getfield 19, 3) := by decide +kernel
theorem dX8_pourFault_45 : decode cX8_pourFault 45 = .ok (.iload_n 3, 1) := by decide +kernel
theorem dX8_pourFault_46 : decode cX8_pourFault 46 = .ok (.invokevirtual 299, 3) := by decide +kernel
theorem dX8_pourFault_49 : decode cX8_pourFault 49 = .ok (.ifCond .eq 5, 3) := by decide +kernel
theorem dX8_pourFault_52 : decode cX8_pourFault 52 = .ok (.iconst 3, 1) := by decide +kernel
theorem dX8_pourFault_53 : decode cX8_pourFault 53 = .ok (.ireturn, 1) := by decide +kernel
theorem dX8_pourFault_54 : decode cX8_pourFault 54 = .ok (.aload_n 0, 1) := by decide +kernel
theorem dX8_pourFault_55 : decode cX8_pourFault 55 = .ok (.getfield 19, 3) := by decide +kernel
theorem dX8_pourFault_58 : decode cX8_pourFault 58 = .ok (.getfield 305, 3) := by decide +kernel
theorem dX8_pourFault_61 : decode cX8_pourFault 61 = .ok (.iload_n 1, 1) := by decide +kernel
theorem dX8_pourFault_62 : decode cX8_pourFault 62 = .ok (.iaload, 1) := by decide +kernel
theorem dX8_pourFault_63 : decode cX8_pourFault 63 = .ok (.aload_n 0, 1) := by decide +kernel
theorem dX8_pourFault_64 : decode cX8_pourFault 64 = .ok (.getfield 19, 3) := by decide +kernel
theorem dX8_pourFault_67 : decode cX8_pourFault 67 = .ok (.getfield 305, 3) := by decide +kernel
theorem dX8_pourFault_70 : decode cX8_pourFault 70 = .ok (.iload_n 3, 1) := by decide +kernel
theorem dX8_pourFault_71 : decode cX8_pourFault 71 = .ok (.iaload, 1) := by decide +kernel
theorem dX8_pourFault_72 : decode cX8_pourFault 72 = .ok (.if_icmp .eq 6, 3) := by decide +kernel
theorem dX8_pourFault_75 : decode cX8_pourFault 75 = .ok (.bipush 8, 2) := by decide +kernel
theorem dX8_pourFault_77 : decode cX8_pourFault 77 = .ok (.ireturn, 1) := by decide +kernel
theorem dX8_pourFault_78 : decode cX8_pourFault 78 = .ok (.aload_n 0, 1) := by decide +kernel
theorem dX8_pourFault_79 : decode cX8_pourFault 79 = .ok (.getfield 19, 3) := by decide +kernel
theorem dX8_pourFault_82 : decode cX8_pourFault 82 = .ok (.iload_n 1, 1) := by decide +kernel
theorem dX8_pourFault_83 : decode cX8_pourFault 83 = .ok (.iload_n 2, 1) := by decide +kernel
theorem dX8_pourFault_84 : decode cX8_pourFault 84 = .ok (.iload 5, 2) := by decide +kernel
theorem dX8_pourFault_86 : decode cX8_pourFault 86 = .ok (.invokevirtual 308, 3) := by decide +kernel
theorem dX8_pourFault_89 : decode cX8_pourFault 89 = .ok (.ifCond .eq 22, 3) := by decide +kernel
theorem dX8_pourFault_92 : decode cX8_pourFault 92 = .ok (.aload_n 0, 1) := by decide +kernel
theorem dX8_pourFault_93 : decode cX8_pourFault 93 = .ok (.getfield 19, 3) := by decide +kernel
theorem dX8_pourFault_96 : decode cX8_pourFault 96 = .ok (.iload_n 3, 1) := by decide +kernel
theorem dX8_pourFault_97 : decode cX8_pourFault 97 = .ok (.iload 4, 2) := by decide +kernel
theorem dX8_pourFault_99 : decode cX8_pourFault 99 = .ok (.iload 5, 2) := by decide +kernel
theorem dX8_pourFault_101 : decode cX8_pourFault 101 = .ok (.invokevirtual 308, 3) := by decide +kernel
theorem dX8_pourFault_104 : decode cX8_pourFault 104 = .ok (.ifCond .eq 7, 3) := by decide +kernel
theorem dX8_pourFault_107 : decode cX8_pourFault 107 = .ok (.iconst 0, 1) := by decide +kernel
theorem dX8_pourFault_108 : decode cX8_pourFault 108 = .ok (.goto 4, 3) := by decide +kernel
theorem dX8_pourFault_111 : decode cX8_pourFault 111 = .ok (.iconst 4, 1) := by decide +kernel
theorem dX8_pourFault_112 : decode cX8_pourFault 112 = .ok (.ireturn, 1) := by decide +kernel
theorem dX8_power_0 : decode cX8_power 0 = .ok (.lconst 1, 1) := by decide +kernel
theorem dX8_power_1 : decode cX8_power 1 = .ok (.lstore_n 3, 1) := by decide +kernel
theorem dX8_power_2 : decode cX8_power 2 = .ok (.iconst 0, 1) := by decide +kernel
theorem dX8_power_3 : decode cX8_power 3 = .ok (.istore 5, 2) := by decide +kernel
theorem dX8_power_5 : decode cX8_power 5 = .ok (.iload 5, 2) := by decide +kernel
theorem dX8_power_7 : decode cX8_power 7 = .ok (.iload_n 2, 1) := by decide +kernel
theorem dX8_power_8 : decode cX8_power 8 = .ok (.if_icmp .ge 13, 3) := by decide +kernel
theorem dX8_power_11 : decode cX8_power 11 = .ok (.lload_n 3, 1) := by decide +kernel
theorem dX8_power_12 : decode cX8_power 12 = .ok (.lload_n 0, 1) := by decide +kernel
theorem dX8_power_13 : decode cX8_power 13 = .ok (.lmul, 1) := by decide +kernel
theorem dX8_power_14 : decode cX8_power 14 = .ok (.lstore_n 3, 1) := by decide +kernel
theorem dX8_power_15 : decode cX8_power 15 = .ok (.iinc 5 1, 3) := by decide +kernel
theorem dX8_power_18 : decode cX8_power 18 = .ok (.goto (-13), 3) := by decide +kernel
theorem dX8_power_21 : decode cX8_power 21 = .ok (.lload_n 3, 1) := by decide +kernel
theorem dX8_power_22 : decode cX8_power 22 = .ok (.lreturn, 1) := by decide +kernel
theorem dX8_read_0 : decode cX8_read 0 = .ok (.aload_n 0, 1) := by decide +kernel
theorem dX8_read_1 : decode cX8_read 1 = .ok (.aload_n 0, 1) := by decide +kernel
theorem dX8_read_2 : decode cX8_read 2 = .ok (.iload_n 1, 1) := by decide +kernel
theorem dX8_read_3 : decode cX8_read 3 = .ok (.iload_n 2, 1) := by decide +kernel
theorem dX8_read_4 : decode cX8_read 4 = .ok (.invokevirtual 97, 3) := by decide +kernel
theorem dX8_read_7 : decode cX8_read 7 = .ok (.putfield 67, 3) := by decide +kernel
theorem dX8_read_10 : decode cX8_read 10 = .ok (.aload_n 0, 1) := by decide +kernel
theorem dX8_read_11 : decode cX8_read 11 = .ok (.getfield 67, 3) := by decide +kernel
theorem dX8_read_14 : decode cX8_read 14 = .ok (.ifCond .eq 7, 3) := by decide +kernel
theorem dX8_read_17 : decode cX8_read 17 = .ok (.ldc2_w 105, 3) := by decide +kernel
theorem dX8_read_20 : decode cX8_read 20 = .ok (.lreturn, 1) := by decide +kernel
theorem dX8_read_21 : decode cX8_read 21 = .ok (.aload_n 0, 1) := by decide +kernel
theorem dX8_read_22 : decode cX8_read 22 = .ok (.getfield 19, 3) := by decide +kernel
theorem dX8_read_25 : decode cX8_read 25 = .ok (.getfield 107, 3) := by decide +kernel
theorem dX8_read_28 : decode cX8_read 28 = .ok (.iload_n 1, 1) := by decide +kernel
theorem dX8_read_29 : decode cX8_read 29 = .ok (.aaload, 1) := by decide +kernel
theorem dX8_read_30 : decode cX8_read 30 = .ok (.iload_n 2, 1) := by decide +kernel
theorem dX8_read_31 : decode cX8_read 31 = .ok (.laload, 1) := by decide +kernel
theorem dX8_read_32 : decode cX8_read 32 = .ok (.lreturn, 1) := by decide +kernel
theorem dX8_reading_0 : decode cX8_reading 0 = .ok (.aload_n 0, 1) := by decide +kernel
theorem dX8_reading_1 : decode cX8_reading 1 = .ok (.aload_n 0, 1) := by decide +kernel
theorem dX8_reading_2 : decode cX8_reading 2 = .ok (.iload_n 1, 1) := by decide +kernel
theorem dX8_reading_3 : decode cX8_reading 3 = .ok (.iload_n 2, 1) := by decide +kernel
theorem dX8_reading_4 : decode cX8_reading 4 = .ok (.iload_n 3, 1) := by decide +kernel
theorem dX8_reading_5 : decode cX8_reading 5 = .ok (.invokevirtual 287, 3) := by decide +kernel
theorem dX8_reading_8 : decode cX8_reading 8 = .ok (.putfield 67, 3) := by decide +kernel
theorem dX8_reading_11 : decode cX8_reading 11 = .ok (.aload_n 0, 1) := by decide +kernel
theorem dX8_reading_12 : decode cX8_reading 12 = .ok (.getfield 67, 3) := by decide +kernel
theorem dX8_reading_15 : decode cX8_reading 15 = .ok (.ifCond .eq 5, 3) := by decide +kernel
theorem dX8_reading_18 : decode cX8_reading 18 = .ok (.iconst 0, 1) := by decide +kernel
theorem dX8_reading_19 : decode cX8_reading 19 = .ok (.ireturn, 1) := by decide +kernel
theorem dX8_reading_20 : decode cX8_reading 20 = .ok (.aload_n 0, 1) := by decide +kernel
theorem dX8_reading_21 : decode cX8_reading 21 = .ok (.iload_n 2, 1) := by decide +kernel
theorem dX8_reading_22 : decode cX8_reading 22 = .ok (.putfield 71, 3) := by decide +kernel
theorem dX8_reading_25 : decode cX8_reading 25 = .ok (.aload_n 0, 1) := by decide +kernel
theorem dX8_reading_26 : decode cX8_reading 26 = .ok (.getfield 63, 3) := by decide +kernel
theorem dX8_reading_29 : decode cX8_reading 29 = .ok (.iload_n 1, 1) := by decide +kernel
theorem dX8_reading_30 : decode cX8_reading 30 = .ok (.iload_n 2, 1) := by decide +kernel
theorem dX8_reading_31 : decode cX8_reading 31 = .ok (.iload_n 3, 1) := by decide +kernel
theorem dX8_reading_32 : decode cX8_reading 32 = .ok (.invokevirtual 290, 3) := by decide +kernel
theorem dX8_reading_35 : decode cX8_reading 35 = .ok (.iconst 1, 1) := by decide +kernel
theorem dX8_reading_36 : decode cX8_reading 36 = .ok (.ireturn, 1) := by decide +kernel
theorem dX8_readingFault_0 : decode cX8_readingFault 0 = .ok (.aload_n 0, 1) := by decide +kernel
theorem dX8_readingFault_1 : decode cX8_readingFault 1 = .ok (.iload_n 1, 1) := by decide +kernel
theorem dX8_readingFault_2 : decode cX8_readingFault 2 = .ok (.invokevirtual 167, 3) := by decide +kernel
theorem dX8_readingFault_5 : decode cX8_readingFault 5 = .ok (.ifCond .eq 21, 3) := by decide +kernel
theorem dX8_readingFault_8 : decode cX8_readingFault 8 = .ok (.iload_n 2, 1) := by decide +kernel
theorem dX8_readingFault_9 : decode cX8_readingFault 9 = .ok (.invokestatic 321, 3) := by decide +kernel
theorem dX8_readingFault_12 : decode cX8_readingFault 12 = .ok (.ifCond .eq 14, 3) := by decide +kernel
theorem dX8_readingFault_15 : decode cX8_readingFault 15 = .ok (.iload_n 3, 1) := by decide +kernel
theorem dX8_readingFault_16 : decode cX8_readingFault 16 = .ok (.iconst 0, 1) := by decide +kernel
theorem dX8_readingFault_17 : decode cX8_readingFault 17 = .ok (.ldc_w 337, 3) := by decide +kernel
theorem dX8_readingFault_20 : decode cX8_readingFault 20 = .ok (.invokestatic 85, 3) := by decide +kernel
theorem dX8_readingFault_23 : decode cX8_readingFault 23 = .ok (.ifCond .ne 5, 3) := by decide +kernel
theorem dX8_readingFault_26 : decode cX8_readingFault 26 = .ok (.iconst 1, 1) := by decide +kernel
theorem dX8_readingFault_27 : decode cX8_readingFault 27 = .ok (.ireturn, 1) := by decide +kernel
theorem dX8_readingFault_28 : decode cX8_readingFault 28 = .ok (.iload_n 2, 1) := by decide +kernel
theorem dX8_readingFault_29 : decode cX8_readingFault 29 = .ok (.aload_n 0, 1) := by decide +kernel
theorem dX8_readingFault_30 : decode cX8_readingFault 30 = .ok (.getfield 71, 3) := by decide +kernel
theorem dX8_readingFault_33 : decode cX8_readingFault 33 = .ok (.if_icmp .ge 5, 3) := by decide +kernel
theorem dX8_readingFault_36 : decode cX8_readingFault 36 = .ok (.iconst 2, 1) := by decide +kernel
theorem dX8_readingFault_37 : decode cX8_readingFault 37 = .ok (.ireturn, 1) := by decide +kernel
theorem dX8_readingFault_38 : decode cX8_readingFault 38 = .ok (.aload_n 0, 1) := by decide +kernel
theorem dX8_readingFault_39 : decode cX8_readingFault 39 = .ok (.getfield 63, 3) := by decide +kernel
theorem dX8_readingFault_42 : decode cX8_readingFault 42 = .ok (.iload_n 1, 1) := by decide +kernel
theorem dX8_readingFault_43 : decode cX8_readingFault 43 = .ok (.iload_n 2, 1) := by decide +kernel
theorem dX8_readingFault_44 : decode cX8_readingFault 44 = .ok (.iload_n 3, 1) := by decide +kernel
theorem dX8_readingFault_45 : decode cX8_readingFault 45 = .ok (.invokevirtual 338, 3) := by decide +kernel
theorem dX8_readingFault_48 : decode cX8_readingFault 48 = .ok (.ifCond .ne 5, 3) := by decide +kernel
theorem dX8_readingFault_51 : decode cX8_readingFault 51 = .ok (.iconst 1, 1) := by decide +kernel
theorem dX8_readingFault_52 : decode cX8_readingFault 52 = .ok (.ireturn, 1) := by decide +kernel
theorem dX8_readingFault_53 : decode cX8_readingFault 53 = .ok (.aload_n 0, 1) := by decide +kernel
theorem dX8_readingFault_54 : decode cX8_readingFault 54 = .ok (.getfield 63, 3) := by decide +kernel
theorem dX8_readingFault_57 : decode cX8_readingFault 57 = .ok (.getfield 341, 3) := by decide +kernel
theorem dX8_readingFault_60 : decode cX8_readingFault 60 = .ok (.iload_n 1, 1) := by decide +kernel
theorem dX8_readingFault_61 : decode cX8_readingFault 61 = .ok (.iaload, 1) := by decide +kernel
theorem dX8_readingFault_62 : decode cX8_readingFault 62 = .ok (.bipush 10, 2) := by decide +kernel
theorem dX8_readingFault_64 : decode cX8_readingFault 64 = .ok (.if_icmp .ge 7, 3) := by decide +kernel
theorem dX8_readingFault_67 : decode cX8_readingFault 67 = .ok (.iconst 0, 1) := by decide +kernel
theorem dX8_readingFault_68 : decode cX8_readingFault 68 = .ok (.goto 4, 3) := by decide +kernel
theorem dX8_readingFault_71 : decode cX8_readingFault 71 = .ok (.iconst 5, 1) := by decide +kernel
theorem dX8_readingFault_72 : decode cX8_readingFault 72 = .ok (.ireturn, 1) := by decide +kernel
theorem dX8_relay_0 : decode cX8_relay 0 = .ok (.aload_n 0, 1) := by decide +kernel
theorem dX8_relay_1 : decode cX8_relay 1 = .ok (.aload_n 0, 1) := by decide +kernel
theorem dX8_relay_2 : decode cX8_relay 2 = .ok (.iload_n 1, 1) := by decide +kernel
theorem dX8_relay_3 : decode cX8_relay 3 = .ok (.iload_n 2, 1) := by decide +kernel
theorem dX8_relay_4 : decode cX8_relay 4 = .ok (.invokevirtual 136, 3) := by decide +kernel
theorem dX8_relay_7 : decode cX8_relay 7 = .ok (.ifCond .eq 16, 3) := by decide +kernel
theorem dX8_relay_10 : decode cX8_relay 10 = .ok (.iload_n 3, 1) := by decide +kernel
theorem dX8_relay_11 : decode cX8_relay 11 = .ok (.iload 4, 2) := by decide +kernel
theorem dX8_relay_13 : decode cX8_relay 13 = .ok (.invokestatic 194, 3) := by decide +kernel
theorem dX8_relay_16 : decode cX8_relay 16 = .ok (.ifCond .eq 7, 3) := by decide +kernel
theorem dX8_relay_19 : decode cX8_relay 19 = .ok (.iconst 1, 1) := by decide +kernel
theorem dX8_relay_20 : decode cX8_relay 20 = .ok (.goto 4, 3) := by decide +kernel
theorem dX8_relay_23 : decode cX8_relay 23 = .ok (.iconst 0, 1) := by decide +kernel
theorem dX8_relay_24 : decode cX8_relay 24 = .ok (.invokestatic 89, 3) := by decide +kernel
theorem dX8_relay_27 : decode cX8_relay 27 = .ok (.putfield 67, 3) := by decide +kernel
theorem dX8_relay_30 : decode cX8_relay 30 = .ok (.aload_n 0, 1) := by decide +kernel
theorem dX8_relay_31 : decode cX8_relay 31 = .ok (.getfield 67, 3) := by decide +kernel
theorem dX8_relay_34 : decode cX8_relay 34 = .ok (.ifCond .eq 5, 3) := by decide +kernel
theorem dX8_relay_37 : decode cX8_relay 37 = .ok (.iconst (-1), 1) := by decide +kernel
theorem dX8_relay_38 : decode cX8_relay 38 = .ok (.ireturn, 1) := by decide +kernel
theorem dX8_relay_39 : decode cX8_relay 39 = .ok (.aload_n 0, 1) := by decide +kernel
theorem dX8_relay_40 : decode cX8_relay 40 = .ok (.getfield 42, 3) := by decide +kernel
theorem dX8_relay_43 : decode cX8_relay 43 = .ok (.iload_n 1, 1) := by decide +kernel
theorem dX8_relay_44 : decode cX8_relay 44 = .ok (.iload_n 2, 1) := by decide +kernel
theorem dX8_relay_45 : decode cX8_relay 45 = .ok (.iload_n 3, 1) := by decide +kernel
theorem dX8_relay_46 : decode cX8_relay 46 = .ok (.iload 4, 2) := by decide +kernel
theorem dX8_relay_48 : decode cX8_relay 48 = .ok (.invokevirtual 200, 3) := by decide +kernel
theorem dX8_relay_51 : decode cX8_relay 51 = .ok (.istore 5, 2) := by decide +kernel
theorem dX8_relay_53 : decode cX8_relay 53 = .ok (.iload 5, 2) := by decide +kernel
theorem dX8_relay_55 : decode cX8_relay 55 = .ok (.iconst (-1), 1) := by decide +kernel
theorem dX8_relay_56 : decode cX8_relay 56 = .ok (.if_icmp .ne 11, 3) := by decide +kernel
theorem dX8_relay_59 : decode cX8_relay 59 = .ok (.aload_n 0, 1) := by decide +kernel
theorem dX8_relay_60 : decode cX8_relay 60 = .ok (.bipush 6, 2) := by decide +kernel
theorem dX8_relay_62 : decode cX8_relay 62 = .ok (.putfield 67, 3) := by decide +kernel
theorem dX8_relay_65 : decode cX8_relay 65 = .ok (.iconst (-1), 1) := by decide +kernel
theorem dX8_relay_66 : decode cX8_relay 66 = .ok (.ireturn, 1) := by decide +kernel
theorem dX8_relay_67 : decode cX8_relay 67 = .ok (.aload_n 0, 1) := by decide +kernel
theorem dX8_relay_68 : decode cX8_relay 68 = .ok (.getfield 10, 3) := by decide +kernel
theorem dX8_relay_71 : decode cX8_relay 71 = .ok (.aload_n 0, 1) := by decide +kernel
theorem dX8_relay_72 : decode cX8_relay 72 = .ok (.getfield 42, 3) := by decide +kernel
theorem dX8_relay_75 : decode cX8_relay 75 = .ok (.getfield 203, 3) := by decide +kernel
theorem dX8_relay_78 : decode cX8_relay 78 = .ok (.aload_n 0, 1) := by decide +kernel
theorem dX8_relay_79 : decode cX8_relay 79 = .ok (.getfield 42, 3) := by decide +kernel
theorem dX8_relay_82 : decode cX8_relay 82 = .ok (.getfield 204, 3) := by decide +kernel
theorem dX8_relay_85 : decode cX8_relay 85 = .ok (.invokevirtual 187, 3) := by decide +kernel
theorem dX8_relay_88 : decode cX8_relay 88 = .ok (.iload 5, 2) := by decide +kernel
theorem dX8_relay_90 : decode cX8_relay 90 = .ok (.ireturn, 1) := by decide +kernel
theorem dX8_right_0 : decode cX8_right 0 = .ok (.aload_n 0, 1) := by decide +kernel
theorem dX8_right_1 : decode cX8_right 1 = .ok (.aload_n 0, 1) := by decide +kernel
theorem dX8_right_2 : decode cX8_right 2 = .ok (.iload_n 1, 1) := by decide +kernel
theorem dX8_right_3 : decode cX8_right 3 = .ok (.iload_n 2, 1) := by decide +kernel
theorem dX8_right_4 : decode cX8_right 4 = .ok (.invokevirtual 292, 3) := by decide +kernel
theorem dX8_right_7 : decode cX8_right 7 = .ok (.putfield 67, 3) := by decide +kernel
theorem dX8_right_10 : decode cX8_right 10 = .ok (.aload_n 0, 1) := by decide +kernel
theorem dX8_right_11 : decode cX8_right 11 = .ok (.getfield 67, 3) := by decide +kernel
theorem dX8_right_14 : decode cX8_right 14 = .ok (.ifCond .eq 5, 3) := by decide +kernel
theorem dX8_right_17 : decode cX8_right 17 = .ok (.iconst (-1), 1) := by decide +kernel
theorem dX8_right_18 : decode cX8_right 18 = .ok (.ireturn, 1) := by decide +kernel
theorem dX8_right_19 : decode cX8_right 19 = .ok (.aload_n 0, 1) := by decide +kernel
theorem dX8_right_20 : decode cX8_right 20 = .ok (.getfield 63, 3) := by decide +kernel
theorem dX8_right_23 : decode cX8_right 23 = .ok (.iload_n 1, 1) := by decide +kernel
theorem dX8_right_24 : decode cX8_right 24 = .ok (.iload_n 2, 1) := by decide +kernel
theorem dX8_right_25 : decode cX8_right 25 = .ok (.aload_n 0, 1) := by decide +kernel
theorem dX8_right_26 : decode cX8_right 26 = .ok (.getfield 10, 3) := by decide +kernel
theorem dX8_right_29 : decode cX8_right 29 = .ok (.invokevirtual 295, 3) := by decide +kernel
theorem dX8_right_32 : decode cX8_right 32 = .ok (.aload_n 0, 1) := by decide +kernel
theorem dX8_right_33 : decode cX8_right 33 = .ok (.getfield 10, 3) := by decide +kernel
theorem dX8_right_36 : decode cX8_right 36 = .ok (.invokevirtual 191, 3) := by decide +kernel
theorem dX8_right_39 : decode cX8_right 39 = .ok (.ireturn, 1) := by decide +kernel
theorem dX8_rightFault_0 : decode cX8_rightFault 0 = .ok (.aload_n 0, 1) := by decide +kernel
theorem dX8_rightFault_1 : decode cX8_rightFault 1 = .ok (.iload_n 1, 1) := by decide +kernel
theorem dX8_rightFault_2 : decode cX8_rightFault 2 = .ok (.invokevirtual 167, 3) := by decide +kernel
theorem dX8_rightFault_5 : decode cX8_rightFault 5 = .ok (.ifCond .eq 14, 3) := by decide +kernel
theorem dX8_rightFault_8 : decode cX8_rightFault 8 = .ok (.iload_n 2, 1) := by decide +kernel
theorem dX8_rightFault_9 : decode cX8_rightFault 9 = .ok (.iconst 0, 1) := by decide +kernel
theorem dX8_rightFault_10 : decode cX8_rightFault 10 = .ok (.ldc_w 337, 3) := by decide +kernel
theorem dX8_rightFault_13 : decode cX8_rightFault 13 = .ok (.invokestatic 85, 3) := by decide +kernel
theorem dX8_rightFault_16 : decode cX8_rightFault 16 = .ok (.ifCond .ne 5, 3) := by decide +kernel
theorem dX8_rightFault_19 : decode cX8_rightFault 19 = .ok (.iconst 1, 1) := by decide +kernel
theorem dX8_rightFault_20 : decode cX8_rightFault 20 = .ok (.ireturn, 1) := by decide +kernel
theorem dX8_rightFault_21 : decode cX8_rightFault 21 = .ok (.aload_n 0, 1) := by decide +kernel
theorem dX8_rightFault_22 : decode cX8_rightFault 22 = .ok (.getfield 63, 3) := by decide +kernel
theorem dX8_rightFault_25 : decode cX8_rightFault 25 = .ok (.getfield 341, 3) := by decide +kernel
theorem dX8_rightFault_28 : decode cX8_rightFault 28 = .ok (.iload_n 1, 1) := by decide +kernel
theorem dX8_rightFault_29 : decode cX8_rightFault 29 = .ok (.iaload, 1) := by decide +kernel
theorem dX8_rightFault_30 : decode cX8_rightFault 30 = .ok (.ifCond .le 7, 3) := by decide +kernel
theorem dX8_rightFault_33 : decode cX8_rightFault 33 = .ok (.iconst 0, 1) := by decide +kernel
theorem dX8_rightFault_34 : decode cX8_rightFault 34 = .ok (.goto 5, 3) := by decide +kernel
theorem dX8_rightFault_37 : decode cX8_rightFault 37 = .ok (.bipush 6, 2) := by decide +kernel
theorem dX8_rightFault_39 : decode cX8_rightFault 39 = .ok (.ireturn, 1) := by decide +kernel
theorem dX8_road_0 : decode cX8_road 0 = .ok (.aload_n 0, 1) := by decide +kernel
theorem dX8_road_1 : decode cX8_road 1 = .ok (.aload_n 0, 1) := by decide +kernel
theorem dX8_road_2 : decode cX8_road 2 = .ok (.iload_n 1, 1) := by decide +kernel
theorem dX8_road_3 : decode cX8_road 3 = .ok (.iload_n 2, 1) := by decide +kernel
theorem dX8_road_4 : decode cX8_road 4 = .ok (.iload_n 3, 1) := by decide +kernel
theorem dX8_road_5 : decode cX8_road 5 = .ok (.iload 4, 2) := by decide +kernel
theorem dX8_road_7 : decode cX8_road 7 = .ok (.invokevirtual 128, 3) := by decide +kernel
theorem dX8_road_10 : decode cX8_road 10 = .ok (.putfield 67, 3) := by decide +kernel
theorem dX8_road_13 : decode cX8_road 13 = .ok (.aload_n 0, 1) := by decide +kernel
theorem dX8_road_14 : decode cX8_road 14 = .ok (.getfield 67, 3) := by decide +kernel
theorem dX8_road_17 : decode cX8_road 17 = .ok (.ifCond .eq 5, 3) := by decide +kernel
theorem dX8_road_20 : decode cX8_road 20 = .ok (.iconst 0, 1) := by decide +kernel
theorem dX8_road_21 : decode cX8_road 21 = .ok (.ireturn, 1) := by decide +kernel
theorem dX8_road_22 : decode cX8_road 22 = .ok (.aload_n 0, 1) := by decide +kernel
theorem dX8_road_23 : decode cX8_road 23 = .ok (.getfield 26, 3) := by decide +kernel
theorem dX8_road_26 : decode cX8_road 26 = .ok (.iload_n 1, 1) := by decide +kernel
theorem dX8_road_27 : decode cX8_road 27 = .ok (.iload_n 2, 1) := by decide +kernel
theorem dX8_road_28 : decode cX8_road 28 = .ok (.iload_n 3, 1) := by decide +kernel
theorem dX8_road_29 : decode cX8_road 29 = .ok (.iconst (-1), 1) := by decide +kernel
theorem dX8_road_30 : decode cX8_road 30 = .ok (.if_icmp .ne 7, 3) := by decide +kernel
theorem dX8_road_33 : decode cX8_road 33 = .ok (.iconst 0, 1) := by decide +kernel
theorem dX8_road_34 : decode cX8_road 34 = .ok (.goto 4, 3) := by decide +kernel
theorem dX8_road_37 : decode cX8_road 37 = .ok (.iload_n 3, 1) := by decide +kernel
theorem dX8_road_38 : decode cX8_road 38 = .ok (.iload 4, 2) := by decide +kernel
theorem dX8_road_40 : decode cX8_road 40 = .ok (.invokevirtual 132, 3) := by decide +kernel
theorem dX8_road_43 : decode cX8_road 43 = .ok (.iconst 1, 1) := by decide +kernel
theorem dX8_road_44 : decode cX8_road 44 = .ok (.ireturn, 1) := by decide +kernel
theorem dX8_roadFault_0 : decode cX8_roadFault 0 = .ok (.aload_n 0, 1) := by decide +kernel
theorem dX8_roadFault_1 : decode cX8_roadFault 1 = .ok (.iload_n 1, 1) := by decide +kernel
theorem dX8_roadFault_2 : decode cX8_roadFault 2 = .ok (.iload_n 2, 1) := by decide +kernel
theorem dX8_roadFault_3 : decode cX8_roadFault 3 = .ok (.invokevirtual 136, 3) := by decide +kernel
theorem dX8_roadFault_6 : decode cX8_roadFault 6 = .ok (.ifCond .eq 14, 3) := by decide +kernel
theorem dX8_roadFault_9 : decode cX8_roadFault 9 = .ok (.iload 4, 2) := by decide +kernel
theorem dX8_roadFault_11 : decode cX8_roadFault 11 = .ok (.iconst 0, 1) := by decide +kernel
theorem dX8_roadFault_12 : decode cX8_roadFault 12 = .ok (.bipush 9, 2) := by decide +kernel
theorem dX8_roadFault_14 : decode cX8_roadFault 14 = .ok (.invokestatic 85, 3) := by decide +kernel
theorem dX8_roadFault_17 : decode cX8_roadFault 17 = .ok (.ifCond .ne 5, 3) := by decide +kernel
theorem dX8_roadFault_20 : decode cX8_roadFault 20 = .ok (.iconst 1, 1) := by decide +kernel
theorem dX8_roadFault_21 : decode cX8_roadFault 21 = .ok (.ireturn, 1) := by decide +kernel
theorem dX8_roadFault_22 : decode cX8_roadFault 22 = .ok (.iload_n 3, 1) := by decide +kernel
theorem dX8_roadFault_23 : decode cX8_roadFault 23 = .ok (.iconst (-1), 1) := by decide +kernel
theorem dX8_roadFault_24 : decode cX8_roadFault 24 = .ok (.if_icmp .ne 22, 3) := by decide +kernel
theorem dX8_roadFault_27 : decode cX8_roadFault 27 = .ok (.aload_n 0, 1) := by decide +kernel
theorem dX8_roadFault_28 : decode cX8_roadFault 28 = .ok (.getfield 26, 3) := by decide +kernel
theorem dX8_roadFault_31 : decode cX8_roadFault 31 = .ok (.iload_n 1, 1) := by decide +kernel
theorem dX8_roadFault_32 : decode cX8_roadFault 32 = .ok (.iload_n 2, 1) := by decide +kernel
theorem dX8_roadFault_33 : decode cX8_roadFault 33 = .ok (.invokevirtual 311, 3) := by decide +kernel
theorem dX8_roadFault_36 : decode cX8_roadFault 36 = .ok (.ifCond .eq 7, 3) := by decide +kernel
theorem dX8_roadFault_39 : decode cX8_roadFault 39 = .ok (.iconst 0, 1) := by decide +kernel
theorem dX8_roadFault_40 : decode cX8_roadFault 40 = .ok (.goto 5, 3) := by decide +kernel
theorem dX8_roadFault_43 : decode cX8_roadFault 43 = .ok (.bipush 6, 2) := by decide +kernel
theorem dX8_roadFault_45 : decode cX8_roadFault 45 = .ok (.ireturn, 1) := by decide +kernel
theorem dX8_roadFault_46 : decode cX8_roadFault 46 = .ok (.iload_n 3, 1) := by decide +kernel
theorem dX8_roadFault_47 : decode cX8_roadFault 47 = .ok (.iconst 1, 1) := by decide +kernel
theorem dX8_roadFault_48 : decode cX8_roadFault 48 = .ok (.sipush 500, 3) := by decide +kernel
theorem dX8_roadFault_51 : decode cX8_roadFault 51 = .ok (.invokestatic 85, 3) := by decide +kernel
theorem dX8_roadFault_54 : decode cX8_roadFault 54 = .ok (.invokestatic 89, 3) := by decide +kernel
theorem dX8_roadFault_57 : decode cX8_roadFault 57 = .ok (.ireturn, 1) := by decide +kernel
theorem dX8_send_0 : decode cX8_send 0 = .ok (.aload_n 0, 1) := by decide +kernel
theorem dX8_send_1 : decode cX8_send 1 = .ok (.aload_n 0, 1) := by decide +kernel
theorem dX8_send_2 : decode cX8_send 2 = .ok (.iload_n 1, 1) := by decide +kernel
theorem dX8_send_3 : decode cX8_send 3 = .ok (.invokevirtual 167, 3) := by decide +kernel
theorem dX8_send_6 : decode cX8_send 6 = .ok (.invokestatic 89, 3) := by decide +kernel
theorem dX8_send_9 : decode cX8_send 9 = .ok (.putfield 67, 3) := by decide +kernel
theorem dX8_send_12 : decode cX8_send 12 = .ok (.aload_n 0, 1) := by decide +kernel
theorem dX8_send_13 : decode cX8_send 13 = .ok (.getfield 67, 3) := by decide +kernel
theorem dX8_send_16 : decode cX8_send 16 = .ok (.ifCond .eq 5, 3) := by decide +kernel
theorem dX8_send_19 : decode cX8_send 19 = .ok (.iconst (-1), 1) := by decide +kernel
theorem dX8_send_20 : decode cX8_send 20 = .ok (.ireturn, 1) := by decide +kernel
theorem dX8_send_21 : decode cX8_send 21 = .ok (.aload_n 0, 1) := by decide +kernel
theorem dX8_send_22 : decode cX8_send 22 = .ok (.getfield 49, 3) := by decide +kernel
theorem dX8_send_25 : decode cX8_send 25 = .ok (.iload_n 1, 1) := by decide +kernel
theorem dX8_send_26 : decode cX8_send 26 = .ok (.invokevirtual 224, 3) := by decide +kernel
theorem dX8_send_29 : decode cX8_send 29 = .ok (.aload_n 0, 1) := by decide +kernel
theorem dX8_send_30 : decode cX8_send 30 = .ok (.getfield 49, 3) := by decide +kernel
theorem dX8_send_33 : decode cX8_send 33 = .ok (.iload_n 1, 1) := by decide +kernel
theorem dX8_send_34 : decode cX8_send 34 = .ok (.invokevirtual 236, 3) := by decide +kernel
theorem dX8_send_37 : decode cX8_send 37 = .ok (.ireturn, 1) := by decide +kernel
theorem dX8_status_0 : decode cX8_status 0 = .ok (.aload_n 0, 1) := by decide +kernel
theorem dX8_status_1 : decode cX8_status 1 = .ok (.getfield 67, 3) := by decide +kernel
theorem dX8_status_4 : decode cX8_status 4 = .ok (.ireturn, 1) := by decide +kernel
theorem dX8_sure_0 : decode cX8_sure 0 = .ok (.aload_n 0, 1) := by decide +kernel
theorem dX8_sure_1 : decode cX8_sure 1 = .ok (.aload_n 0, 1) := by decide +kernel
theorem dX8_sure_2 : decode cX8_sure 2 = .ok (.iload_n 1, 1) := by decide +kernel
theorem dX8_sure_3 : decode cX8_sure 3 = .ok (.iload_n 2, 1) := by decide +kernel
theorem dX8_sure_4 : decode cX8_sure 4 = .ok (.iload_n 3, 1) := by decide +kernel
theorem dX8_sure_5 : decode cX8_sure 5 = .ok (.invokevirtual 173, 3) := by decide +kernel
theorem dX8_sure_8 : decode cX8_sure 8 = .ok (.putfield 67, 3) := by decide +kernel
theorem dX8_sure_11 : decode cX8_sure 11 = .ok (.aload_n 0, 1) := by decide +kernel
theorem dX8_sure_12 : decode cX8_sure 12 = .ok (.getfield 67, 3) := by decide +kernel
theorem dX8_sure_15 : decode cX8_sure 15 = .ok (.ifCond .eq 5, 3) := by decide +kernel
theorem dX8_sure_18 : decode cX8_sure 18 = .ok (.iconst (-1), 1) := by decide +kernel
theorem dX8_sure_19 : decode cX8_sure 19 = .ok (.ireturn, 1) := by decide +kernel
theorem dX8_sure_20 : decode cX8_sure 20 = .ok (.aload_n 0, 1) := by decide +kernel
theorem dX8_sure_21 : decode cX8_sure 21 = .ok (.getfield 10, 3) := by decide +kernel
theorem dX8_sure_24 : decode cX8_sure 24 = .ok (.aload_n 0, 1) := by decide +kernel
theorem dX8_sure_25 : decode cX8_sure 25 = .ok (.getfield 26, 3) := by decide +kernel
theorem dX8_sure_28 : decode cX8_sure 28 = .ok (.iload_n 1, 1) := by decide +kernel
theorem dX8_sure_29 : decode cX8_sure 29 = .ok (.iload_n 2, 1) := by decide +kernel
theorem dX8_sure_30 : decode cX8_sure 30 = .ok (.iload_n 3, 1) := by decide +kernel
theorem dX8_sure_31 : decode cX8_sure 31 = .ok (.invokevirtual 177, 3) := by decide +kernel
theorem dX8_sure_34 : decode cX8_sure 34 = .ok (.ldc2_w 181, 3) := by decide +kernel
theorem dX8_sure_37 : decode cX8_sure 37 = .ok (.iload_n 3, 1) := by decide +kernel
theorem dX8_sure_38 : decode cX8_sure 38 = .ok (.invokestatic 183, 3) := by decide +kernel
theorem dX8_sure_41 : decode cX8_sure 41 = .ok (.invokevirtual 187, 3) := by decide +kernel
theorem dX8_sure_44 : decode cX8_sure 44 = .ok (.aload_n 0, 1) := by decide +kernel
theorem dX8_sure_45 : decode cX8_sure 45 = .ok (.getfield 10, 3) := by decide +kernel
theorem dX8_sure_48 : decode cX8_sure 48 = .ok (.invokevirtual 191, 3) := by decide +kernel
theorem dX8_sure_51 : decode cX8_sure 51 = .ok (.ireturn, 1) := by decide +kernel
theorem dX8_sureFault_0 : decode cX8_sureFault 0 = .ok (.aload_n 0, 1) := by decide +kernel
theorem dX8_sureFault_1 : decode cX8_sureFault 1 = .ok (.iload_n 1, 1) := by decide +kernel
theorem dX8_sureFault_2 : decode cX8_sureFault 2 = .ok (.iload_n 2, 1) := by decide +kernel
theorem dX8_sureFault_3 : decode cX8_sureFault 3 = .ok (.invokevirtual 136, 3) := by decide +kernel
theorem dX8_sureFault_6 : decode cX8_sureFault 6 = .ok (.ifCond .eq 12, 3) := by decide +kernel
theorem dX8_sureFault_9 : decode cX8_sureFault 9 = .ok (.iload_n 3, 1) := by decide +kernel
theorem dX8_sureFault_10 : decode cX8_sureFault 10 = .ok (.iconst 1, 1) := by decide +kernel
theorem dX8_sureFault_11 : decode cX8_sureFault 11 = .ok (.iconst 4, 1) := by decide +kernel
theorem dX8_sureFault_12 : decode cX8_sureFault 12 = .ok (.invokestatic 85, 3) := by decide +kernel
theorem dX8_sureFault_15 : decode cX8_sureFault 15 = .ok (.ifCond .ne 5, 3) := by decide +kernel
theorem dX8_sureFault_18 : decode cX8_sureFault 18 = .ok (.iconst 1, 1) := by decide +kernel
theorem dX8_sureFault_19 : decode cX8_sureFault 19 = .ok (.ireturn, 1) := by decide +kernel
theorem dX8_sureFault_20 : decode cX8_sureFault 20 = .ok (.aload_n 0, 1) := by decide +kernel
theorem dX8_sureFault_21 : decode cX8_sureFault 21 = .ok (.getfield 26, 3) := by decide +kernel
theorem dX8_sureFault_24 : decode cX8_sureFault 24 = .ok (.iload_n 1, 1) := by decide +kernel
theorem dX8_sureFault_25 : decode cX8_sureFault 25 = .ok (.iload_n 2, 1) := by decide +kernel
theorem dX8_sureFault_26 : decode cX8_sureFault 26 = .ok (.invokevirtual 311, 3) := by decide +kernel
theorem dX8_sureFault_29 : decode cX8_sureFault 29 = .ok (.ifCond .eq 7, 3) := by decide +kernel
theorem dX8_sureFault_32 : decode cX8_sureFault 32 = .ok (.iconst 0, 1) := by decide +kernel
theorem dX8_sureFault_33 : decode cX8_sureFault 33 = .ok (.goto 5, 3) := by decide +kernel
theorem dX8_sureFault_36 : decode cX8_sureFault 36 = .ok (.bipush 6, 2) := by decide +kernel
theorem dX8_sureFault_38 : decode cX8_sureFault 38 = .ok (.ireturn, 1) := by decide +kernel
theorem dX8_told_0 : decode cX8_told 0 = .ok (.aload_n 0, 1) := by decide +kernel
theorem dX8_told_1 : decode cX8_told 1 = .ok (.aload_n 0, 1) := by decide +kernel
theorem dX8_told_2 : decode cX8_told 2 = .ok (.iload_n 1, 1) := by decide +kernel
theorem dX8_told_3 : decode cX8_told 3 = .ok (.invokevirtual 161, 3) := by decide +kernel
theorem dX8_told_6 : decode cX8_told 6 = .ok (.ifCond .eq 16, 3) := by decide +kernel
theorem dX8_told_9 : decode cX8_told 9 = .ok (.iload_n 2, 1) := by decide +kernel
theorem dX8_told_10 : decode cX8_told 10 = .ok (.iconst 0, 1) := by decide +kernel
theorem dX8_told_11 : decode cX8_told 11 = .ok (.iconst 4, 1) := by decide +kernel
theorem dX8_told_12 : decode cX8_told 12 = .ok (.invokestatic 85, 3) := by decide +kernel
theorem dX8_told_15 : decode cX8_told 15 = .ok (.ifCond .eq 7, 3) := by decide +kernel
theorem dX8_told_18 : decode cX8_told 18 = .ok (.iconst 1, 1) := by decide +kernel
theorem dX8_told_19 : decode cX8_told 19 = .ok (.goto 4, 3) := by decide +kernel
theorem dX8_told_22 : decode cX8_told 22 = .ok (.iconst 0, 1) := by decide +kernel
theorem dX8_told_23 : decode cX8_told 23 = .ok (.invokestatic 89, 3) := by decide +kernel
theorem dX8_told_26 : decode cX8_told 26 = .ok (.putfield 67, 3) := by decide +kernel
theorem dX8_told_29 : decode cX8_told 29 = .ok (.aload_n 0, 1) := by decide +kernel
theorem dX8_told_30 : decode cX8_told 30 = .ok (.getfield 67, 3) := by decide +kernel
theorem dX8_told_33 : decode cX8_told 33 = .ok (.ifCond .eq 5, 3) := by decide +kernel
theorem dX8_told_36 : decode cX8_told 36 = .ok (.iconst (-1), 1) := by decide +kernel
theorem dX8_told_37 : decode cX8_told 37 = .ok (.ireturn, 1) := by decide +kernel
theorem dX8_told_38 : decode cX8_told 38 = .ok (.aload_n 0, 1) := by decide +kernel
theorem dX8_told_39 : decode cX8_told 39 = .ok (.getfield 33, 3) := by decide +kernel
theorem dX8_told_42 : decode cX8_told 42 = .ok (.iload_n 1, 1) := by decide +kernel
theorem dX8_told_43 : decode cX8_told 43 = .ok (.iload_n 2, 1) := by decide +kernel
theorem dX8_told_44 : decode cX8_told 44 = .ok (.invokevirtual 164, 3) := by decide +kernel
theorem dX8_told_47 : decode cX8_told 47 = .ok (.ireturn, 1) := by decide +kernel
theorem dX8_top_0 : decode cX8_top 0 = .ok (.aload_n 0, 1) := by decide +kernel
theorem dX8_top_1 : decode cX8_top 1 = .ok (.getfield 10, 3) := by decide +kernel
theorem dX8_top_4 : decode cX8_top 4 = .ok (.getfield 74, 3) := by decide +kernel
theorem dX8_top_7 : decode cX8_top 7 = .ok (.lreturn, 1) := by decide +kernel
theorem dX8_town_0 : decode cX8_town 0 = .ok (.aload_n 0, 1) := by decide +kernel
theorem dX8_town_1 : decode cX8_town 1 = .ok (.aload_n 0, 1) := by decide +kernel
theorem dX8_town_2 : decode cX8_town 2 = .ok (.getfield 26, 3) := by decide +kernel
theorem dX8_town_5 : decode cX8_town 5 = .ok (.getfield 121, 3) := by decide +kernel
theorem dX8_town_8 : decode cX8_town 8 = .ok (.bipush 10, 2) := by decide +kernel
theorem dX8_town_10 : decode cX8_town 10 = .ok (.if_icmp .ge 7, 3) := by decide +kernel
theorem dX8_town_13 : decode cX8_town 13 = .ok (.iconst 0, 1) := by decide +kernel
theorem dX8_town_14 : decode cX8_town 14 = .ok (.goto 4, 3) := by decide +kernel
theorem dX8_town_17 : decode cX8_town 17 = .ok (.iconst 5, 1) := by decide +kernel
theorem dX8_town_18 : decode cX8_town 18 = .ok (.putfield 67, 3) := by decide +kernel
theorem dX8_town_21 : decode cX8_town 21 = .ok (.aload_n 0, 1) := by decide +kernel
theorem dX8_town_22 : decode cX8_town 22 = .ok (.getfield 67, 3) := by decide +kernel
theorem dX8_town_25 : decode cX8_town 25 = .ok (.ifCond .eq 5, 3) := by decide +kernel
theorem dX8_town_28 : decode cX8_town 28 = .ok (.iconst (-1), 1) := by decide +kernel
theorem dX8_town_29 : decode cX8_town 29 = .ok (.ireturn, 1) := by decide +kernel
theorem dX8_town_30 : decode cX8_town 30 = .ok (.aload_n 0, 1) := by decide +kernel
theorem dX8_town_31 : decode cX8_town 31 = .ok (.getfield 26, 3) := by decide +kernel
theorem dX8_town_34 : decode cX8_town 34 = .ok (.invokevirtual 124, 3) := by decide +kernel
theorem dX8_town_37 : decode cX8_town 37 = .ok (.ireturn, 1) := by decide +kernel
theorem dX8_tray_0 : decode cX8_tray 0 = .ok (.aload_n 0, 1) := by decide +kernel
theorem dX8_tray_1 : decode cX8_tray 1 = .ok (.iload_n 1, 1) := by decide +kernel
theorem dX8_tray_2 : decode cX8_tray 2 = .ok (.invokestatic 81, 3) := by decide +kernel
theorem dX8_tray_5 : decode cX8_tray 5 = .ok (.ifCond .eq 26, 3) := by decide +kernel
theorem dX8_tray_8 : decode cX8_tray 8 = .ok (.iload_n 2, 1) := by decide +kernel
theorem dX8_tray_9 : decode cX8_tray 9 = .ok (.iconst 0, 1) := by decide +kernel
theorem dX8_tray_10 : decode cX8_tray 10 = .ok (.iconst 3, 1) := by decide +kernel
theorem dX8_tray_11 : decode cX8_tray 11 = .ok (.invokestatic 85, 3) := by decide +kernel
theorem dX8_tray_14 : decode cX8_tray 14 = .ok (.ifCond .eq 17, 3) := by decide +kernel
theorem dX8_tray_17 : decode cX8_tray 17 = .ok (.iload_n 3, 1) := by decide +kernel
theorem dX8_tray_18 : decode cX8_tray 18 = .ok (.iconst 0, 1) := by decide +kernel
theorem dX8_tray_19 : decode cX8_tray 19 = .ok (.bipush 60, 2) := by decide +kernel
theorem dX8_tray_21 : decode cX8_tray 21 = .ok (.invokestatic 85, 3) := by decide +kernel
theorem dX8_tray_24 : decode cX8_tray 24 = .ok (.ifCond .eq 7, 3) := by decide +kernel
theorem dX8_tray_27 : decode cX8_tray 27 = .ok (.iconst 1, 1) := by decide +kernel
theorem dX8_tray_28 : decode cX8_tray 28 = .ok (.goto 4, 3) := by decide +kernel
theorem dX8_tray_31 : decode cX8_tray 31 = .ok (.iconst 0, 1) := by decide +kernel
theorem dX8_tray_32 : decode cX8_tray 32 = .ok (.invokestatic 89, 3) := by decide +kernel
theorem dX8_tray_35 : decode cX8_tray 35 = .ok (.putfield 67, 3) := by decide +kernel
theorem dX8_tray_38 : decode cX8_tray 38 = .ok (.aload_n 0, 1) := by decide +kernel
theorem dX8_tray_39 : decode cX8_tray 39 = .ok (.getfield 67, 3) := by decide +kernel
theorem dX8_tray_42 : decode cX8_tray 42 = .ok (.ifCond .eq 5, 3) := by decide +kernel
theorem dX8_tray_45 : decode cX8_tray 45 = .ok (.iconst 0, 1) := by decide +kernel
theorem dX8_tray_46 : decode cX8_tray 46 = .ok (.ireturn, 1) := by decide +kernel
theorem dX8_tray_47 : decode cX8_tray 47 = .ok (.aload_n 0, 1) := by decide +kernel
theorem dX8_tray_48 : decode cX8_tray 48 = .ok (.getfield 19, 3) := by decide +kernel
theorem dX8_tray_51 : decode cX8_tray 51 = .ok (.iload_n 1, 1) := by decide +kernel
theorem dX8_tray_52 : decode cX8_tray 52 = .ok (.iload_n 2, 1) := by decide +kernel
theorem dX8_tray_53 : decode cX8_tray 53 = .ok (.iload_n 3, 1) := by decide +kernel
theorem dX8_tray_54 : decode cX8_tray 54 = .ok (.invokevirtual 93, 3) := by decide +kernel
theorem dX8_tray_57 : decode cX8_tray 57 = .ok (.iconst 1, 1) := by decide +kernel
theorem dX8_tray_58 : decode cX8_tray 58 = .ok (.ireturn, 1) := by decide +kernel
theorem dX8_waits_0 : decode cX8_waits 0 = .ok (.aload_n 0, 1) := by decide +kernel
theorem dX8_waits_1 : decode cX8_waits 1 = .ok (.aload_n 0, 1) := by decide +kernel
theorem dX8_waits_2 : decode cX8_waits 2 = .ok (.iload_n 1, 1) := by decide +kernel
theorem dX8_waits_3 : decode cX8_waits 3 = .ok (.invokevirtual 167, 3) := by decide +kernel
theorem dX8_waits_6 : decode cX8_waits 6 = .ok (.ifCond .eq 15, 3) := by decide +kernel
theorem dX8_waits_9 : decode cX8_waits 9 = .ok (.aload_n 0, 1) := by decide +kernel
theorem dX8_waits_10 : decode cX8_waits 10 = .ok (.iload_n 2, 1) := by decide +kernel
theorem dX8_waits_11 : decode cX8_waits 11 = .ok (.invokevirtual 167, 3) := by decide +kernel
theorem dX8_waits_14 : decode cX8_waits 14 = .ok (.ifCond .eq 7, 3) := by decide +kernel
theorem dX8_waits_17 : decode cX8_waits 17 = .ok (.iconst 1, 1) := by decide +kernel
theorem dX8_waits_18 : decode cX8_waits 18 = .ok (.goto 4, 3) := by decide +kernel
theorem dX8_waits_21 : decode cX8_waits 21 = .ok (.iconst 0, 1) := by decide +kernel
theorem dX8_waits_22 : decode cX8_waits 22 = .ok (.invokestatic 89, 3) := by decide +kernel
theorem dX8_waits_25 : decode cX8_waits 25 = .ok (.putfield 67, 3) := by decide +kernel
theorem dX8_waits_28 : decode cX8_waits 28 = .ok (.aload_n 0, 1) := by decide +kernel
theorem dX8_waits_29 : decode cX8_waits 29 = .ok (.getfield 67, 3) := by decide +kernel
theorem dX8_waits_32 : decode cX8_waits 32 = .ok (.ifCond .eq 5, 3) := by decide +kernel
theorem dX8_waits_35 : decode cX8_waits 35 = .ok (.iconst (-1), 1) := by decide +kernel
theorem dX8_waits_36 : decode cX8_waits 36 = .ok (.ireturn, 1) := by decide +kernel
theorem dX8_waits_37 : decode cX8_waits 37 = .ok (.aload_n 0, 1) := by decide +kernel
theorem dX8_waits_38 : decode cX8_waits 38 = .ok (.getfield 33, 3) := by decide +kernel
theorem dX8_waits_41 : decode cX8_waits 41 = .ok (.getfield 170, 3) := by decide +kernel
theorem dX8_waits_44 : decode cX8_waits 44 = .ok (.iload_n 1, 1) := by decide +kernel
theorem dX8_waits_45 : decode cX8_waits 45 = .ok (.aaload, 1) := by decide +kernel
theorem dX8_waits_46 : decode cX8_waits 46 = .ok (.iload_n 2, 1) := by decide +kernel
theorem dX8_waits_47 : decode cX8_waits 47 = .ok (.iaload, 1) := by decide +kernel
theorem dX8_waits_48 : decode cX8_waits 48 = .ok (.ireturn, 1) := by decide +kernel
theorem dX8_want_0 : decode cX8_want 0 = .ok (.aload_n 0, 1) := by decide +kernel
theorem dX8_want_1 : decode cX8_want 1 = .ok (.aload_n 0, 1) := by decide +kernel
theorem dX8_want_2 : decode cX8_want 2 = .ok (.iload_n 1, 1) := by decide +kernel
theorem dX8_want_3 : decode cX8_want 3 = .ok (.iload_n 2, 1) := by decide +kernel
theorem dX8_want_4 : decode cX8_want 4 = .ok (.invokevirtual 136, 3) := by decide +kernel
theorem dX8_want_7 : decode cX8_want 7 = .ok (.ifCond .eq 28, 3) := by decide +kernel
theorem dX8_want_10 : decode cX8_want 10 = .ok (.iload_n 3, 1) := by decide +kernel
theorem dX8_want_11 : decode cX8_want 11 = .ok (.iconst 0, 1) := by decide +kernel
theorem dX8_want_12 : decode cX8_want 12 = .ok (.bipush 20, 2) := by decide +kernel
theorem dX8_want_14 : decode cX8_want 14 = .ok (.invokestatic 85, 3) := by decide +kernel
theorem dX8_want_17 : decode cX8_want 17 = .ok (.ifCond .eq 18, 3) := by decide +kernel
theorem dX8_want_20 : decode cX8_want 20 = .ok (.iload 4, 2) := by decide +kernel
theorem dX8_want_22 : decode cX8_want 22 = .ok (.iconst 1, 1) := by decide +kernel
theorem dX8_want_23 : decode cX8_want 23 = .ok (.bipush 100, 2) := by decide +kernel
theorem dX8_want_25 : decode cX8_want 25 = .ok (.invokestatic 85, 3) := by decide +kernel
theorem dX8_want_28 : decode cX8_want 28 = .ok (.ifCond .eq 7, 3) := by decide +kernel
theorem dX8_want_31 : decode cX8_want 31 = .ok (.iconst 1, 1) := by decide +kernel
theorem dX8_want_32 : decode cX8_want 32 = .ok (.goto 4, 3) := by decide +kernel
theorem dX8_want_35 : decode cX8_want 35 = .ok (.iconst 0, 1) := by decide +kernel
theorem dX8_want_36 : decode cX8_want 36 = .ok (.invokestatic 89, 3) := by decide +kernel
theorem dX8_want_39 : decode cX8_want 39 = .ok (.putfield 67, 3) := by decide +kernel
theorem dX8_want_42 : decode cX8_want 42 = .ok (.aload_n 0, 1) := by decide +kernel
theorem dX8_want_43 : decode cX8_want 43 = .ok (.getfield 67, 3) := by decide +kernel
theorem dX8_want_46 : decode cX8_want 46 = .ok (.ifCond .eq 5, 3) := by decide +kernel
theorem dX8_want_49 : decode cX8_want 49 = .ok (.iconst 0, 1) := by decide +kernel
theorem dX8_want_50 : decode cX8_want 50 = .ok (.ireturn, 1) := by decide +kernel
theorem dX8_want_51 : decode cX8_want 51 = .ok (.aload_n 0, 1) := by decide +kernel
theorem dX8_want_52 : decode cX8_want 52 = .ok (.getfield 49, 3) := by decide +kernel
theorem dX8_want_55 : decode cX8_want 55 = .ok (.getfield 215, 3) := by decide +kernel
theorem dX8_want_58 : decode cX8_want 58 = .ok (.iload_n 1, 1) := by decide +kernel
theorem dX8_want_59 : decode cX8_want 59 = .ok (.aaload, 1) := by decide +kernel
theorem dX8_want_60 : decode cX8_want 60 = .ok (.iload_n 2, 1) := by decide +kernel
theorem dX8_want_61 : decode cX8_want 61 = .ok (.iload_n 3, 1) := by decide +kernel
theorem dX8_want_62 : decode cX8_want 62 = .ok (.iastore, 1) := by decide +kernel
theorem dX8_want_63 : decode cX8_want 63 = .ok (.aload_n 0, 1) := by decide +kernel
theorem dX8_want_64 : decode cX8_want 64 = .ok (.getfield 49, 3) := by decide +kernel
theorem dX8_want_67 : decode cX8_want 67 = .ok (.getfield 218, 3) := by decide +kernel
theorem dX8_want_70 : decode cX8_want 70 = .ok (.iload_n 1, 1) := by decide +kernel
theorem dX8_want_71 : decode cX8_want 71 = .ok (.aaload, 1) := by decide +kernel
theorem dX8_want_72 : decode cX8_want 72 = .ok (.iload_n 2, 1) := by decide +kernel
theorem dX8_want_73 : decode cX8_want 73 = .ok (.iload 4, 2) := by decide +kernel
theorem dX8_want_75 : decode cX8_want 75 = .ok (.iastore, 1) := by decide +kernel
theorem dX8_want_76 : decode cX8_want 76 = .ok (.iconst 1, 1) := by decide +kernel
theorem dX8_want_77 : decode cX8_want 77 = .ok (.ireturn, 1) := by decide +kernel
theorem dX8_within_0 : decode cX8_within 0 = .ok (.iload_n 0, 1) := by decide +kernel
theorem dX8_within_1 : decode cX8_within 1 = .ok (.iload_n 1, 1) := by decide +kernel
theorem dX8_within_2 : decode cX8_within 2 = .ok (.if_icmp .lt 12, 3) := by decide +kernel
theorem dX8_within_5 : decode cX8_within 5 = .ok (.iload_n 0, 1) := by decide +kernel
theorem dX8_within_6 : decode cX8_within 6 = .ok (.iload_n 2, 1) := by decide +kernel
theorem dX8_within_7 : decode cX8_within 7 = .ok (.if_icmp .gt 7, 3) := by decide +kernel
theorem dX8_within_10 : decode cX8_within 10 = .ok (.iconst 1, 1) := by decide +kernel
theorem dX8_within_11 : decode cX8_within 11 = .ok (.goto 4, 3) := by decide +kernel
theorem dX8_within_14 : decode cX8_within 14 = .ok (.iconst 0, 1) := by decide +kernel
theorem dX8_within_15 : decode cX8_within 15 = .ok (.ireturn, 1) := by decide +kernel
theorem dX8_write_0 : decode cX8_write 0 = .ok (.aload_n 0, 1) := by decide +kernel
theorem dX8_write_1 : decode cX8_write 1 = .ok (.aload_n 0, 1) := by decide +kernel
theorem dX8_write_2 : decode cX8_write 2 = .ok (.iload_n 1, 1) := by decide +kernel
theorem dX8_write_3 : decode cX8_write 3 = .ok (.iload_n 2, 1) := by decide +kernel
theorem dX8_write_4 : decode cX8_write 4 = .ok (.invokevirtual 97, 3) := by decide +kernel
theorem dX8_write_7 : decode cX8_write 7 = .ok (.putfield 67, 3) := by decide +kernel
theorem dX8_write_10 : decode cX8_write 10 = .ok (.aload_n 0, 1) := by decide +kernel
theorem dX8_write_11 : decode cX8_write 11 = .ok (.getfield 67, 3) := by decide +kernel
theorem dX8_write_14 : decode cX8_write 14 = .ok (.ifCond .eq 5, 3) := by decide +kernel
theorem dX8_write_17 : decode cX8_write 17 = .ok (.iconst 0, 1) := by decide +kernel
theorem dX8_write_18 : decode cX8_write 18 = .ok (.ireturn, 1) := by decide +kernel
theorem dX8_write_19 : decode cX8_write 19 = .ok (.aload_n 0, 1) := by decide +kernel
theorem dX8_write_20 : decode cX8_write 20 = .ok (.getfield 19, 3) := by decide +kernel
theorem dX8_write_23 : decode cX8_write 23 = .ok (.iload_n 1, 1) := by decide +kernel
theorem dX8_write_24 : decode cX8_write 24 = .ok (.iload_n 2, 1) := by decide +kernel
theorem dX8_write_25 : decode cX8_write 25 = .ok (.lload_n 3, 1) := by decide +kernel
theorem dX8_write_26 : decode cX8_write 26 = .ok (.invokevirtual 101, 3) := by decide +kernel
theorem dX8_write_29 : decode cX8_write 29 = .ok (.iconst 1, 1) := by decide +kernel
theorem dX8_write_30 : decode cX8_write 30 = .ok (.ireturn, 1) := by decide +kernel
theorem dX8_wrongUnless_0 : decode cX8_wrongUnless 0 = .ok (.iload_n 0, 1) := by decide +kernel
theorem dX8_wrongUnless_1 : decode cX8_wrongUnless 1 = .ok (.ifCond .eq 7, 3) := by decide +kernel
theorem dX8_wrongUnless_4 : decode cX8_wrongUnless 4 = .ok (.iconst 0, 1) := by decide +kernel
theorem dX8_wrongUnless_5 : decode cX8_wrongUnless 5 = .ok (.goto 4, 3) := by decide +kernel
theorem dX8_wrongUnless_8 : decode cX8_wrongUnless 8 = .ok (.iconst 1, 1) := by decide +kernel
theorem dX8_wrongUnless_9 : decode cX8_wrongUnless 9 = .ok (.ireturn, 1) := by decide +kernel
theorem dX9_at_0 : decode cX9_at 0 = .ok (.bipush 10, 2) := by decide +kernel
theorem dX9_at_2 : decode cX9_at 2 = .ok (.iload_n 0, 1) := by decide +kernel
theorem dX9_at_3 : decode cX9_at 3 = .ok (.imul, 1) := by decide +kernel
theorem dX9_at_4 : decode cX9_at 4 = .ok (.iload_n 1, 1) := by decide +kernel
theorem dX9_at_5 : decode cX9_at 5 = .ok (.iadd, 1) := by decide +kernel
theorem dX9_at_6 : decode cX9_at 6 = .ok (.ireturn, 1) := by decide +kernel
theorem dX9_bird_0 : decode cX9_bird 0 = .ok (.aload_n 0, 1) := by decide +kernel
theorem dX9_bird_1 : decode cX9_bird 1 = .ok (.iload_n 1, 1) := by decide +kernel
theorem dX9_bird_2 : decode cX9_bird 2 = .ok (.invokevirtual 146, 3) := by decide +kernel
theorem dX9_bird_5 : decode cX9_bird 5 = .ok (.ifCond .ne 9, 3) := by decide +kernel
theorem dX9_bird_8 : decode cX9_bird 8 = .ok (.aload_n 0, 1) := by decide +kernel
theorem dX9_bird_9 : decode cX9_bird 9 = .ok (.iconst 1, 1) := by decide +kernel
theorem dX9_bird_10 : decode cX9_bird 10 = .ok (.invokevirtual 139, 3) := by decide +kernel
theorem dX9_bird_13 : decode cX9_bird 13 = .ok (.ireturn, 1) := by decide +kernel
theorem dX9_bird_14 : decode cX9_bird 14 = .ok (.aload_n 0, 1) := by decide +kernel
theorem dX9_bird_15 : decode cX9_bird 15 = .ok (.getfield 136, 3) := by decide +kernel
theorem dX9_bird_18 : decode cX9_bird 18 = .ok (.bipush 60, 2) := by decide +kernel
theorem dX9_bird_20 : decode cX9_bird 20 = .ok (.if_icmp .ne 9, 3) := by decide +kernel
theorem dX9_bird_23 : decode cX9_bird 23 = .ok (.aload_n 0, 1) := by decide +kernel
theorem dX9_bird_24 : decode cX9_bird 24 = .ok (.iconst 5, 1) := by decide +kernel
theorem dX9_bird_25 : decode cX9_bird 25 = .ok (.invokevirtual 139, 3) := by decide +kernel
theorem dX9_bird_28 : decode cX9_bird 28 = .ok (.ireturn, 1) := by decide +kernel
theorem dX9_bird_29 : decode cX9_bird 29 = .ok (.aload_n 0, 1) := by decide +kernel
theorem dX9_bird_30 : decode cX9_bird 30 = .ok (.getfield 39, 3) := by decide +kernel
theorem dX9_bird_33 : decode cX9_bird 33 = .ok (.aload_n 0, 1) := by decide +kernel
theorem dX9_bird_34 : decode cX9_bird 34 = .ok (.getfield 136, 3) := by decide +kernel
theorem dX9_bird_37 : decode cX9_bird 37 = .ok (.iload_n 1, 1) := by decide +kernel
theorem dX9_bird_38 : decode cX9_bird 38 = .ok (.iastore, 1) := by decide +kernel
theorem dX9_bird_39 : decode cX9_bird 39 = .ok (.aload_n 0, 1) := by decide +kernel
theorem dX9_bird_40 : decode cX9_bird 40 = .ok (.getfield 42, 3) := by decide +kernel
theorem dX9_bird_43 : decode cX9_bird 43 = .ok (.aload_n 0, 1) := by decide +kernel
theorem dX9_bird_44 : decode cX9_bird 44 = .ok (.getfield 136, 3) := by decide +kernel
theorem dX9_bird_47 : decode cX9_bird 47 = .ok (.iload_n 1, 1) := by decide +kernel
theorem dX9_bird_48 : decode cX9_bird 48 = .ok (.iastore, 1) := by decide +kernel
theorem dX9_bird_49 : decode cX9_bird 49 = .ok (.aload_n 0, 1) := by decide +kernel
theorem dX9_bird_50 : decode cX9_bird 50 = .ok (.getfield 45, 3) := by decide +kernel
theorem dX9_bird_53 : decode cX9_bird 53 = .ok (.aload_n 0, 1) := by decide +kernel
theorem dX9_bird_54 : decode cX9_bird 54 = .ok (.getfield 136, 3) := by decide +kernel
theorem dX9_bird_57 : decode cX9_bird 57 = .ok (.iconst 0, 1) := by decide +kernel
theorem dX9_bird_58 : decode cX9_bird 58 = .ok (.iastore, 1) := by decide +kernel
theorem dX9_bird_59 : decode cX9_bird 59 = .ok (.aload_n 0, 1) := by decide +kernel
theorem dX9_bird_60 : decode cX9_bird 60 = .ok (.getfield 48, 3) := by decide +kernel
theorem dX9_bird_63 : decode cX9_bird 63 = .ok (.aload_n 0, 1) := by decide +kernel
theorem dX9_bird_64 : decode cX9_bird 64 = .ok (.getfield 136, 3) := by decide +kernel
theorem dX9_bird_67 : decode cX9_bird 67 = .ok (.iconst 0, 1) := by decide +kernel
theorem dX9_bird_68 : decode cX9_bird 68 = .ok (.iastore, 1) := by decide +kernel
theorem dX9_bird_69 : decode cX9_bird 69 = .ok (.aload_n 0, 1) := by decide +kernel
theorem dX9_bird_70 : decode cX9_bird 70 = .ok (.getfield 51, 3) := by decide +kernel
theorem dX9_bird_73 : decode cX9_bird 73 = .ok (.aload_n 0, 1) := by decide +kernel
theorem dX9_bird_74 : decode cX9_bird 74 = .ok (.getfield 136, 3) := by decide +kernel
theorem dX9_bird_77 : decode cX9_bird 77 = .ok (.iconst (-1), 1) := by decide +kernel
theorem dX9_bird_78 : decode cX9_bird 78 = .ok (.iastore, 1) := by decide +kernel
theorem dX9_bird_79 : decode cX9_bird 79 = .ok (.aload_n 0, 1) := by decide +kernel
theorem dX9_bird_80 : decode cX9_bird 80 = .ok (.dup, 1) := by decide +kernel
theorem dX9_bird_81 : decode cX9_bird 81 = .ok (.getfield 136, 3) := by decide +kernel
theorem dX9_bird_84 : decode cX9_bird 84 = .ok (.iconst 1, 1) := by decide +kernel
theorem dX9_bird_85 : decode cX9_bird 85 = .ok (.iadd, 1) := by decide +kernel
theorem dX9_bird_86 : decode cX9_bird 86 = .ok (.putfield 136, 3) := by decide +kernel
theorem dX9_bird_89 : decode cX9_bird 89 = .ok (.aload_n 0, 1) := by decide +kernel
theorem dX9_bird_90 : decode cX9_bird 90 = .ok (.iconst 0, 1) := by decide +kernel
theorem dX9_bird_91 : decode cX9_bird 91 = .ok (.putfield 109, 3) := by decide +kernel
theorem dX9_bird_94 : decode cX9_bird 94 = .ok (.aload_n 0, 1) := by decide +kernel
theorem dX9_bird_95 : decode cX9_bird 95 = .ok (.getfield 136, 3) := by decide +kernel
theorem dX9_bird_98 : decode cX9_bird 98 = .ok (.iconst 1, 1) := by decide +kernel
theorem dX9_bird_99 : decode cX9_bird 99 = .ok (.isub, 1) := by decide +kernel
theorem dX9_bird_100 : decode cX9_bird 100 = .ok (.ireturn, 1) := by decide +kernel
theorem dX9_bottom_0 : decode cX9_bottom 0 = .ok (.aload_n 0, 1) := by decide +kernel
theorem dX9_bottom_1 : decode cX9_bottom 1 = .ok (.getfield 7, 3) := by decide +kernel
theorem dX9_bottom_4 : decode cX9_bottom 4 = .ok (.lreturn, 1) := by decide +kernel
theorem dX9_bring_0 : decode cX9_bring 0 = .ok (.aload_n 0, 1) := by decide +kernel
theorem dX9_bring_1 : decode cX9_bring 1 = .ok (.iload_n 1, 1) := by decide +kernel
theorem dX9_bring_2 : decode cX9_bring 2 = .ok (.iload_n 1, 1) := by decide +kernel
theorem dX9_bring_3 : decode cX9_bring 3 = .ok (.invokevirtual 152, 3) := by decide +kernel
theorem dX9_bring_6 : decode cX9_bring 6 = .ok (.istore_n 2, 1) := by decide +kernel
theorem dX9_bring_7 : decode cX9_bring 7 = .ok (.iconst 0, 1) := by decide +kernel
theorem dX9_bring_8 : decode cX9_bring 8 = .ok (.istore_n 3, 1) := by decide +kernel
theorem dX9_bring_9 : decode cX9_bring 9 = .ok (.iload_n 3, 1) := by decide +kernel
theorem dX9_bring_10 : decode cX9_bring 10 = .ok (.iload_n 2, 1) := by decide +kernel
theorem dX9_bring_11 : decode cX9_bring 11 = .ok (.if_icmp .gt 24, 3) := by decide +kernel
theorem dX9_bring_14 : decode cX9_bring 14 = .ok (.aload_n 0, 1) := by decide +kernel
theorem dX9_bring_15 : decode cX9_bring 15 = .ok (.getfield 72, 3) := by decide +kernel
theorem dX9_bring_18 : decode cX9_bring 18 = .ok (.bipush 61, 2) := by decide +kernel
theorem dX9_bring_20 : decode cX9_bring 20 = .ok (.aload_n 0, 1) := by decide +kernel
theorem dX9_bring_21 : decode cX9_bring 21 = .ok (.getfield 133, 3) := by decide +kernel
theorem dX9_bring_24 : decode cX9_bring 24 = .ok (.imul, 1) := by decide +kernel
theorem dX9_bring_25 : decode cX9_bring 25 = .ok (.iload_n 3, 1) := by decide +kernel
theorem dX9_bring_26 : decode cX9_bring 26 = .ok (.iadd, 1) := by decide +kernel
theorem dX9_bring_27 : decode cX9_bring 27 = .ok (.lconst 0, 1) := by decide +kernel
theorem dX9_bring_28 : decode cX9_bring 28 = .ok (.lastore, 1) := by decide +kernel
theorem dX9_bring_29 : decode cX9_bring 29 = .ok (.iinc 3 1, 3) := by decide +kernel
theorem dX9_bring_32 : decode cX9_bring 32 = .ok (.goto (-23), 3) := by decide +kernel
theorem dX9_bring_35 : decode cX9_bring 35 = .ok (.aload_n 0, 1) := by decide +kernel
theorem dX9_bring_36 : decode cX9_bring 36 = .ok (.getfield 133, 3) := by decide +kernel
theorem dX9_bring_39 : decode cX9_bring 39 = .ok (.iconst 1, 1) := by decide +kernel
theorem dX9_bring_40 : decode cX9_bring 40 = .ok (.isub, 1) := by decide +kernel
theorem dX9_bring_41 : decode cX9_bring 41 = .ok (.istore_n 3, 1) := by decide +kernel
theorem dX9_bring_42 : decode cX9_bring 42 = .ok (.iload_n 3, 1) := by decide +kernel
theorem dX9_bring_43 : decode cX9_bring 43 = .ok (.ifCond .lt 118, 3) := by decide +kernel
theorem dX9_bring_46 : decode cX9_bring 46 = .ok (.aload_n 0, 1) := by decide +kernel
theorem dX9_bring_47 : decode cX9_bring 47 = .ok (.iload_n 3, 1) := by decide +kernel
theorem dX9_bring_48 : decode cX9_bring 48 = .ok (.iload_n 1, 1) := by decide +kernel
theorem dX9_bring_49 : decode cX9_bring 49 = .ok (.invokevirtual 203, 3) := by decide +kernel
theorem dX9_bring_52 : decode cX9_bring 52 = .ok (.istore 4, 2) := by decide +kernel
theorem dX9_bring_54 : decode cX9_bring 54 = .ok (.iconst 0, 1) := by decide +kernel
theorem dX9_bring_55 : decode cX9_bring 55 = .ok (.istore 5, 2) := by decide +kernel
theorem dX9_bring_57 : decode cX9_bring 57 = .ok (.iload 5, 2) := by decide +kernel
theorem dX9_bring_59 : decode cX9_bring 59 = .ok (.iload_n 2, 1) := by decide +kernel
theorem dX9_bring_60 : decode cX9_bring 60 = .ok (.if_icmp .gt 95, 3) := by decide +kernel
theorem dX9_bring_63 : decode cX9_bring 63 = .ok (.aload_n 0, 1) := by decide +kernel
theorem dX9_bring_64 : decode cX9_bring 64 = .ok (.getfield 72, 3) := by decide +kernel
theorem dX9_bring_67 : decode cX9_bring 67 = .ok (.bipush 61, 2) := by decide +kernel
theorem dX9_bring_69 : decode cX9_bring 69 = .ok (.iload_n 3, 1) := by decide +kernel
theorem dX9_bring_70 : decode cX9_bring 70 = .ok (.iconst 1, 1) := by decide +kernel
theorem dX9_bring_71 : decode cX9_bring 71 = .ok (.iadd, 1) := by decide +kernel
theorem dX9_bring_72 : decode cX9_bring 72 = .ok (.imul, 1) := by decide +kernel
theorem dX9_bring_73 : decode cX9_bring 73 = .ok (.iload 5, 2) := by decide +kernel
theorem dX9_bring_75 : decode cX9_bring 75 = .ok (.iadd, 1) := by decide +kernel
theorem dX9_bring_76 : decode cX9_bring 76 = .ok (.laload, 1) := by decide +kernel
theorem dX9_bring_77 : decode cX9_bring 77 = .ok (.lstore 6, 2) := by decide +kernel
theorem dX9_bring_79 : decode cX9_bring 79 = .ok (.iconst 1, 1) := by decide +kernel
theorem dX9_bring_80 : decode cX9_bring 80 = .ok (.istore 8, 2) := by decide +kernel
theorem dX9_bring_82 : decode cX9_bring 82 = .ok (.iload 8, 2) := by decide +kernel
theorem dX9_bring_84 : decode cX9_bring 84 = .ok (.iload 4, 2) := by decide +kernel
theorem dX9_bring_86 : decode cX9_bring 86 = .ok (.if_icmp .gt 49, 3) := by decide +kernel
theorem dX9_bring_89 : decode cX9_bring 89 = .ok (.iload 8, 2) := by decide +kernel
theorem dX9_bring_91 : decode cX9_bring 91 = .ok (.iload 5, 2) := by decide +kernel
theorem dX9_bring_93 : decode cX9_bring 93 = .ok (.if_icmp .gt 42, 3) := by decide +kernel
theorem dX9_bring_96 : decode cX9_bring 96 = .ok (.lload 6, 2) := by decide +kernel
theorem dX9_bring_98 : decode cX9_bring 98 = .ok (.aload_n 0, 1) := by decide +kernel
theorem dX9_bring_99 : decode cX9_bring 99 = .ok (.iload_n 3, 1) := by decide +kernel
theorem dX9_bring_100 : decode cX9_bring 100 = .ok (.iload_n 1, 1) := by decide +kernel
theorem dX9_bring_101 : decode cX9_bring 101 = .ok (.iload 8, 2) := by decide +kernel
theorem dX9_bring_103 : decode cX9_bring 103 = .ok (.invokevirtual 206, 3) := by decide +kernel
theorem dX9_bring_106 : decode cX9_bring 106 = .ok (.aload_n 0, 1) := by decide +kernel
theorem dX9_bring_107 : decode cX9_bring 107 = .ok (.getfield 72, 3) := by decide +kernel
theorem dX9_bring_110 : decode cX9_bring 110 = .ok (.bipush 61, 2) := by decide +kernel
theorem dX9_bring_112 : decode cX9_bring 112 = .ok (.iload_n 3, 1) := by decide +kernel
theorem dX9_bring_113 : decode cX9_bring 113 = .ok (.iconst 1, 1) := by decide +kernel
theorem dX9_bring_114 : decode cX9_bring 114 = .ok (.iadd, 1) := by decide +kernel
theorem dX9_bring_115 : decode cX9_bring 115 = .ok (.imul, 1) := by decide +kernel
theorem dX9_bring_116 : decode cX9_bring 116 = .ok (.iload 5, 2) := by decide +kernel
theorem dX9_bring_118 : decode cX9_bring 118 = .ok (.iadd, 1) := by decide +kernel
theorem dX9_bring_119 : decode cX9_bring 119 = .ok (.iload 8, 2) := by decide +kernel
theorem dX9_bring_121 : decode cX9_bring 121 = .ok (.isub, 1) := by decide +kernel
theorem dX9_bring_122 : decode cX9_bring 122 = .ok (.laload, 1) := by decide +kernel
theorem dX9_bring_123 : decode cX9_bring 123 = .ok (.ladd, 1) := by decide +kernel
theorem dX9_bring_124 : decode cX9_bring 124 = .ok (.invokestatic 210, 3) := by decide +kernel
theorem dX9_bring_127 : decode cX9_bring 127 = .ok (.lstore 6, 2) := by decide +kernel
theorem dX9_bring_129 : decode cX9_bring 129 = .ok (.iinc 8 1, 3) := by decide +kernel
theorem dX9_bring_132 : decode cX9_bring 132 = .ok (.goto (-50), 3) := by decide +kernel
theorem dX9_bring_135 : decode cX9_bring 135 = .ok (.aload_n 0, 1) := by decide +kernel
theorem dX9_bring_136 : decode cX9_bring 136 = .ok (.getfield 72, 3) := by decide +kernel
theorem dX9_bring_139 : decode cX9_bring 139 = .ok (.bipush 61, 2) := by decide +kernel
theorem dX9_bring_141 : decode cX9_bring 141 = .ok (.iload_n 3, 1) := by decide +kernel
theorem dX9_bring_142 : decode cX9_bring 142 = .ok (.imul, 1) := by decide +kernel
theorem dX9_bring_143 : decode cX9_bring 143 = .ok (.iload 5, 2) := by decide +kernel
theorem dX9_bring_145 : decode cX9_bring 145 = .ok (.iadd, 1) := by decide +kernel
theorem dX9_bring_146 : decode cX9_bring 146 = .ok (.lload 6, 2) := by decide +kernel
theorem dX9_bring_148 : decode cX9_bring 148 = .ok (.lastore, 1) := by decide +kernel
theorem dX9_bring_149 : decode cX9_bring 149 = .ok (.iinc 5 1, 3) := by decide +kernel
theorem dX9_bring_152 : decode cX9_bring 152 = .ok (.goto (-95), 3) := by decide +kernel
theorem dX9_bring_155 : decode cX9_bring 155 = .ok (.iinc 3 (-1), 3) := by decide +kernel
theorem dX9_bring_158 : decode cX9_bring 158 = .ok (.goto (-116), 3) := by decide +kernel
theorem dX9_bring_161 : decode cX9_bring 161 = .ok (.iload_n 2, 1) := by decide +kernel
theorem dX9_bring_162 : decode cX9_bring 162 = .ok (.istore_n 3, 1) := by decide +kernel
theorem dX9_bring_163 : decode cX9_bring 163 = .ok (.iconst 0, 1) := by decide +kernel
theorem dX9_bring_164 : decode cX9_bring 164 = .ok (.istore 4, 2) := by decide +kernel
theorem dX9_bring_166 : decode cX9_bring 166 = .ok (.iload 4, 2) := by decide +kernel
theorem dX9_bring_168 : decode cX9_bring 168 = .ok (.aload_n 0, 1) := by decide +kernel
theorem dX9_bring_169 : decode cX9_bring 169 = .ok (.getfield 133, 3) := by decide +kernel
theorem dX9_bring_172 : decode cX9_bring 172 = .ok (.if_icmp .ge 85, 3) := by decide +kernel
theorem dX9_bring_175 : decode cX9_bring 175 = .ok (.aload_n 0, 1) := by decide +kernel
theorem dX9_bring_176 : decode cX9_bring 176 = .ok (.iload 4, 2) := by decide +kernel
theorem dX9_bring_178 : decode cX9_bring 178 = .ok (.iload_n 1, 1) := by decide +kernel
theorem dX9_bring_179 : decode cX9_bring 179 = .ok (.invokevirtual 203, 3) := by decide +kernel
theorem dX9_bring_182 : decode cX9_bring 182 = .ok (.iload_n 3, 1) := by decide +kernel
theorem dX9_bring_183 : decode cX9_bring 183 = .ok (.invokestatic 213, 3) := by decide +kernel
theorem dX9_bring_186 : decode cX9_bring 186 = .ok (.istore 5, 2) := by decide +kernel
theorem dX9_bring_188 : decode cX9_bring 188 = .ok (.aload_n 0, 1) := by decide +kernel
theorem dX9_bring_189 : decode cX9_bring 189 = .ok (.iload 4, 2) := by decide +kernel
theorem dX9_bring_191 : decode cX9_bring 191 = .ok (.iload_n 1, 1) := by decide +kernel
theorem dX9_bring_192 : decode cX9_bring 192 = .ok (.iload 5, 2) := by decide +kernel
theorem dX9_bring_194 : decode cX9_bring 194 = .ok (.invokevirtual 206, 3) := by decide +kernel
theorem dX9_bring_197 : decode cX9_bring 197 = .ok (.aload_n 0, 1) := by decide +kernel
theorem dX9_bring_198 : decode cX9_bring 198 = .ok (.getfield 72, 3) := by decide +kernel
theorem dX9_bring_201 : decode cX9_bring 201 = .ok (.bipush 61, 2) := by decide +kernel
theorem dX9_bring_203 : decode cX9_bring 203 = .ok (.iload 4, 2) := by decide +kernel
theorem dX9_bring_205 : decode cX9_bring 205 = .ok (.iconst 1, 1) := by decide +kernel
theorem dX9_bring_206 : decode cX9_bring 206 = .ok (.iadd, 1) := by decide +kernel
theorem dX9_bring_207 : decode cX9_bring 207 = .ok (.imul, 1) := by decide +kernel
theorem dX9_bring_208 : decode cX9_bring 208 = .ok (.iload_n 3, 1) := by decide +kernel
theorem dX9_bring_209 : decode cX9_bring 209 = .ok (.iadd, 1) := by decide +kernel
theorem dX9_bring_210 : decode cX9_bring 210 = .ok (.iload 5, 2) := by decide +kernel
theorem dX9_bring_212 : decode cX9_bring 212 = .ok (.isub, 1) := by decide +kernel
theorem dX9_bring_213 : decode cX9_bring 213 = .ok (.laload, 1) := by decide +kernel
theorem dX9_bring_214 : decode cX9_bring 214 = .ok (.ladd, 1) := by decide +kernel
theorem dX9_bring_215 : decode cX9_bring 215 = .ok (.aload_n 0, 1) := by decide +kernel
theorem dX9_bring_216 : decode cX9_bring 216 = .ok (.getfield 72, 3) := by decide +kernel
theorem dX9_bring_219 : decode cX9_bring 219 = .ok (.bipush 61, 2) := by decide +kernel
theorem dX9_bring_221 : decode cX9_bring 221 = .ok (.iload 4, 2) := by decide +kernel
theorem dX9_bring_223 : decode cX9_bring 223 = .ok (.imul, 1) := by decide +kernel
theorem dX9_bring_224 : decode cX9_bring 224 = .ok (.iload_n 3, 1) := by decide +kernel
theorem dX9_bring_225 : decode cX9_bring 225 = .ok (.iadd, 1) := by decide +kernel
theorem dX9_bring_226 : decode cX9_bring 226 = .ok (.laload, 1) := by decide +kernel
theorem dX9_bring_227 : decode cX9_bring 227 = .ok (.lcmp, 1) := by decide +kernel
theorem dX9_bring_228 : decode cX9_bring 228 = .ok (.ifCond .eq 9, 3) := by decide +kernel
theorem dX9_bring_231 : decode cX9_bring 231 = .ok (.iinc 5 (-1), 3) := by decide +kernel
theorem dX9_bring_234 : decode cX9_bring 234 = .ok (.goto (-46), 3) := by decide +kernel
theorem dX9_bring_237 : decode cX9_bring 237 = .ok (.aload_n 0, 1) := by decide +kernel
theorem dX9_bring_238 : decode cX9_bring 238 = .ok (.getfield 75, 3) := by decide +kernel
theorem dX9_bring_241 : decode cX9_bring 241 = .ok (.iload 4, 2) := by decide +kernel
theorem dX9_bring_243 : decode cX9_bring 243 = .ok (.iload 5, 2) := by decide +kernel
theorem dX9_bring_245 : decode cX9_bring 245 = .ok (.iastore, 1) := by decide +kernel
theorem dX9_bring_246 : decode cX9_bring 246 = .ok (.iload_n 3, 1) := by decide +kernel
theorem dX9_bring_247 : decode cX9_bring 247 = .ok (.iload 5, 2) := by decide +kernel
theorem dX9_bring_249 : decode cX9_bring 249 = .ok (.isub, 1) := by decide +kernel
theorem dX9_bring_250 : decode cX9_bring 250 = .ok (.istore_n 3, 1) := by decide +kernel
theorem dX9_bring_251 : decode cX9_bring 251 = .ok (.iinc 4 1, 3) := by decide +kernel
theorem dX9_bring_254 : decode cX9_bring 254 = .ok (.goto (-88), 3) := by decide +kernel
theorem dX9_bring_257 : decode cX9_bring 257 = .ok (.aload_n 0, 1) := by decide +kernel
theorem dX9_bring_258 : decode cX9_bring 258 = .ok (.getfield 72, 3) := by decide +kernel
theorem dX9_bring_261 : decode cX9_bring 261 = .ok (.iload_n 2, 1) := by decide +kernel
theorem dX9_bring_262 : decode cX9_bring 262 = .ok (.laload, 1) := by decide +kernel
theorem dX9_bring_263 : decode cX9_bring 263 = .ok (.lreturn, 1) := by decide +kernel
theorem dX9_carried_0 : decode cX9_carried 0 = .ok (.aload_n 0, 1) := by decide +kernel
theorem dX9_carried_1 : decode cX9_carried 1 = .ok (.iload_n 1, 1) := by decide +kernel
theorem dX9_carried_2 : decode cX9_carried 2 = .ok (.invokevirtual 146, 3) := by decide +kernel
theorem dX9_carried_5 : decode cX9_carried 5 = .ok (.ifCond .eq 16, 3) := by decide +kernel
theorem dX9_carried_8 : decode cX9_carried 8 = .ok (.aload_n 0, 1) := by decide +kernel
theorem dX9_carried_9 : decode cX9_carried 9 = .ok (.iload_n 2, 1) := by decide +kernel
theorem dX9_carried_10 : decode cX9_carried 10 = .ok (.invokevirtual 146, 3) := by decide +kernel
theorem dX9_carried_13 : decode cX9_carried 13 = .ok (.ifCond .eq 8, 3) := by decide +kernel
theorem dX9_carried_16 : decode cX9_carried 16 = .ok (.iload_n 1, 1) := by decide +kernel
theorem dX9_carried_17 : decode cX9_carried 17 = .ok (.iload_n 2, 1) := by decide +kernel
theorem dX9_carried_18 : decode cX9_carried 18 = .ok (.if_icmp .ne 9, 3) := by decide +kernel
theorem dX9_carried_21 : decode cX9_carried 21 = .ok (.aload_n 0, 1) := by decide +kernel
theorem dX9_carried_22 : decode cX9_carried 22 = .ok (.iconst 1, 1) := by decide +kernel
theorem dX9_carried_23 : decode cX9_carried 23 = .ok (.invokevirtual 139, 3) := by decide +kernel
theorem dX9_carried_26 : decode cX9_carried 26 = .ok (.ireturn, 1) := by decide +kernel
theorem dX9_carried_27 : decode cX9_carried 27 = .ok (.aload_n 0, 1) := by decide +kernel
theorem dX9_carried_28 : decode cX9_carried 28 = .ok (.iconst 0, 1) := by decide +kernel
theorem dX9_carried_29 : decode cX9_carried 29 = .ok (.putfield 109, 3) := by decide +kernel
theorem dX9_carried_32 : decode cX9_carried 32 = .ok (.aload_n 0, 1) := by decide +kernel
theorem dX9_carried_33 : decode cX9_carried 33 = .ok (.iload_n 1, 1) := by decide +kernel
theorem dX9_carried_34 : decode cX9_carried 34 = .ok (.invokevirtual 218, 3) := by decide +kernel
theorem dX9_carried_37 : decode cX9_carried 37 = .ok (.lstore_n 3, 1) := by decide +kernel
theorem dX9_carried_38 : decode cX9_carried 38 = .ok (.aload_n 0, 1) := by decide +kernel
theorem dX9_carried_39 : decode cX9_carried 39 = .ok (.getfield 75, 3) := by decide +kernel
theorem dX9_carried_42 : decode cX9_carried 42 = .ok (.iload_n 2, 1) := by decide +kernel
theorem dX9_carried_43 : decode cX9_carried 43 = .ok (.iaload, 1) := by decide +kernel
theorem dX9_carried_44 : decode cX9_carried 44 = .ok (.ireturn, 1) := by decide +kernel
theorem dX9_carry_0 : decode cX9_carry 0 = .ok (.aload_n 0, 1) := by decide +kernel
theorem dX9_carry_1 : decode cX9_carry 1 = .ok (.iload_n 1, 1) := by decide +kernel
theorem dX9_carry_2 : decode cX9_carry 2 = .ok (.invokevirtual 149, 3) := by decide +kernel
theorem dX9_carry_5 : decode cX9_carry 5 = .ok (.ifCond .eq 11, 3) := by decide +kernel
theorem dX9_carry_8 : decode cX9_carry 8 = .ok (.aload_n 0, 1) := by decide +kernel
theorem dX9_carry_9 : decode cX9_carry 9 = .ok (.iload_n 2, 1) := by decide +kernel
theorem dX9_carry_10 : decode cX9_carry 10 = .ok (.invokevirtual 146, 3) := by decide +kernel
theorem dX9_carry_13 : decode cX9_carry 13 = .ok (.ifCond .ne 9, 3) := by decide +kernel
theorem dX9_carry_16 : decode cX9_carry 16 = .ok (.aload_n 0, 1) := by decide +kernel
theorem dX9_carry_17 : decode cX9_carry 17 = .ok (.iconst 1, 1) := by decide +kernel
theorem dX9_carry_18 : decode cX9_carry 18 = .ok (.invokevirtual 120, 3) := by decide +kernel
theorem dX9_carry_21 : decode cX9_carry 21 = .ok (.ireturn, 1) := by decide +kernel
theorem dX9_carry_22 : decode cX9_carry 22 = .ok (.aload_n 0, 1) := by decide +kernel
theorem dX9_carry_23 : decode cX9_carry 23 = .ok (.getfield 45, 3) := by decide +kernel
theorem dX9_carry_26 : decode cX9_carry 26 = .ok (.iload_n 1, 1) := by decide +kernel
theorem dX9_carry_27 : decode cX9_carry 27 = .ok (.iaload, 1) := by decide +kernel
theorem dX9_carry_28 : decode cX9_carry 28 = .ok (.ifCond .eq 10, 3) := by decide +kernel
theorem dX9_carry_31 : decode cX9_carry 31 = .ok (.aload_n 0, 1) := by decide +kernel
theorem dX9_carry_32 : decode cX9_carry 32 = .ok (.bipush 7, 2) := by decide +kernel
theorem dX9_carry_34 : decode cX9_carry 34 = .ok (.invokevirtual 120, 3) := by decide +kernel
theorem dX9_carry_37 : decode cX9_carry 37 = .ok (.ireturn, 1) := by decide +kernel
theorem dX9_carry_38 : decode cX9_carry 38 = .ok (.aload_n 0, 1) := by decide +kernel
theorem dX9_carry_39 : decode cX9_carry 39 = .ok (.getfield 42, 3) := by decide +kernel
theorem dX9_carry_42 : decode cX9_carry 42 = .ok (.iload_n 1, 1) := by decide +kernel
theorem dX9_carry_43 : decode cX9_carry 43 = .ok (.iload_n 2, 1) := by decide +kernel
theorem dX9_carry_44 : decode cX9_carry 44 = .ok (.iastore, 1) := by decide +kernel
theorem dX9_carry_45 : decode cX9_carry 45 = .ok (.aload_n 0, 1) := by decide +kernel
theorem dX9_carry_46 : decode cX9_carry 46 = .ok (.iconst 0, 1) := by decide +kernel
theorem dX9_carry_47 : decode cX9_carry 47 = .ok (.invokevirtual 120, 3) := by decide +kernel
theorem dX9_carry_50 : decode cX9_carry 50 = .ok (.ireturn, 1) := by decide +kernel
theorem dX9_carrying_0 : decode cX9_carrying 0 = .ok (.aload_n 0, 1) := by decide +kernel
theorem dX9_carrying_1 : decode cX9_carrying 1 = .ok (.iload_n 1, 1) := by decide +kernel
theorem dX9_carrying_2 : decode cX9_carrying 2 = .ok (.invokevirtual 146, 3) := by decide +kernel
theorem dX9_carrying_5 : decode cX9_carrying 5 = .ok (.ifCond .ne 9, 3) := by decide +kernel
theorem dX9_carrying_8 : decode cX9_carrying 8 = .ok (.aload_n 0, 1) := by decide +kernel
theorem dX9_carrying_9 : decode cX9_carrying 9 = .ok (.iconst 1, 1) := by decide +kernel
theorem dX9_carrying_10 : decode cX9_carrying 10 = .ok (.invokevirtual 139, 3) := by decide +kernel
theorem dX9_carrying_13 : decode cX9_carrying 13 = .ok (.ireturn, 1) := by decide +kernel
theorem dX9_carrying_14 : decode cX9_carrying 14 = .ok (.aload_n 0, 1) := by decide +kernel
theorem dX9_carrying_15 : decode cX9_carrying 15 = .ok (.iconst 0, 1) := by decide +kernel
theorem dX9_carrying_16 : decode cX9_carrying 16 = .ok (.putfield 109, 3) := by decide +kernel
theorem dX9_carrying_19 : decode cX9_carrying 19 = .ok (.aload_n 0, 1) := by decide +kernel
theorem dX9_carrying_20 : decode cX9_carrying 20 = .ok (.iload_n 1, 1) := by decide +kernel
theorem dX9_carrying_21 : decode cX9_carrying 21 = .ok (.invokevirtual 218, 3) := by decide +kernel
theorem dX9_carrying_24 : decode cX9_carrying 24 = .ok (.lstore_n 2, 1) := by decide +kernel
theorem dX9_carrying_25 : decode cX9_carrying 25 = .ok (.iconst 0, 1) := by decide +kernel
theorem dX9_carrying_26 : decode cX9_carrying 26 = .ok (.istore 4, 2) := by decide +kernel
theorem dX9_carrying_28 : decode cX9_carrying 28 = .ok (.iconst 0, 1) := by decide +kernel
theorem dX9_carrying_29 : decode cX9_carrying 29 = .ok (.istore 5, 2) := by decide +kernel
theorem dX9_carrying_31 : decode cX9_carrying 31 = .ok (.iload 5, 2) := by decide +kernel
theorem dX9_carrying_33 : decode cX9_carrying 33 = .ok (.aload_n 0, 1) := by decide +kernel
theorem dX9_carrying_34 : decode cX9_carrying 34 = .ok (.getfield 133, 3) := by decide +kernel
theorem dX9_carrying_37 : decode cX9_carrying 37 = .ok (.if_icmp .ge 33, 3) := by decide +kernel
theorem dX9_carrying_40 : decode cX9_carrying 40 = .ok (.iload 4, 2) := by decide +kernel
theorem dX9_carrying_42 : decode cX9_carrying 42 = .ok (.aload_n 0, 1) := by decide +kernel
theorem dX9_carrying_43 : decode cX9_carrying 43 = .ok (.getfield 75, 3) := by decide +kernel
theorem dX9_carrying_46 : decode cX9_carrying 46 = .ok (.iload 5, 2) := by decide +kernel
theorem dX9_carrying_48 : decode cX9_carrying 48 = .ok (.iaload, 1) := by decide +kernel
theorem dX9_carrying_49 : decode cX9_carrying 49 = .ok (.aload_n 0, 1) := by decide +kernel
theorem dX9_carrying_50 : decode cX9_carrying 50 = .ok (.getfield 36, 3) := by decide +kernel
theorem dX9_carrying_53 : decode cX9_carrying 53 = .ok (.iload 5, 2) := by decide +kernel
theorem dX9_carrying_55 : decode cX9_carrying 55 = .ok (.iload_n 1, 1) := by decide +kernel
theorem dX9_carrying_56 : decode cX9_carrying 56 = .ok (.invokestatic 143, 3) := by decide +kernel
theorem dX9_carrying_59 : decode cX9_carrying 59 = .ok (.iaload, 1) := by decide +kernel
theorem dX9_carrying_60 : decode cX9_carrying 60 = .ok (.imul, 1) := by decide +kernel
theorem dX9_carrying_61 : decode cX9_carrying 61 = .ok (.iadd, 1) := by decide +kernel
theorem dX9_carrying_62 : decode cX9_carrying 62 = .ok (.istore 4, 2) := by decide +kernel
theorem dX9_carrying_64 : decode cX9_carrying 64 = .ok (.iinc 5 1, 3) := by decide +kernel
theorem dX9_carrying_67 : decode cX9_carrying 67 = .ok (.goto (-36), 3) := by decide +kernel
theorem dX9_carrying_70 : decode cX9_carrying 70 = .ok (.iload 4, 2) := by decide +kernel
theorem dX9_carrying_72 : decode cX9_carrying 72 = .ok (.ireturn, 1) := by decide +kernel
theorem dX9_comes_0 : decode cX9_comes 0 = .ok (.aload_n 0, 1) := by decide +kernel
theorem dX9_comes_1 : decode cX9_comes 1 = .ok (.iload_n 1, 1) := by decide +kernel
theorem dX9_comes_2 : decode cX9_comes 2 = .ok (.invokevirtual 149, 3) := by decide +kernel
theorem dX9_comes_5 : decode cX9_comes 5 = .ok (.ifCond .eq 11, 3) := by decide +kernel
theorem dX9_comes_8 : decode cX9_comes 8 = .ok (.iload 4, 2) := by decide +kernel
theorem dX9_comes_10 : decode cX9_comes 10 = .ok (.invokestatic 226, 3) := by decide +kernel
theorem dX9_comes_13 : decode cX9_comes 13 = .ok (.ifCond .ne 9, 3) := by decide +kernel
theorem dX9_comes_16 : decode cX9_comes 16 = .ok (.aload_n 0, 1) := by decide +kernel
theorem dX9_comes_17 : decode cX9_comes 17 = .ok (.iconst 1, 1) := by decide +kernel
theorem dX9_comes_18 : decode cX9_comes 18 = .ok (.invokevirtual 139, 3) := by decide +kernel
theorem dX9_comes_21 : decode cX9_comes 21 = .ok (.ireturn, 1) := by decide +kernel
theorem dX9_comes_22 : decode cX9_comes 22 = .ok (.iload_n 2, 1) := by decide +kernel
theorem dX9_comes_23 : decode cX9_comes 23 = .ok (.iconst (-1), 1) := by decide +kernel
theorem dX9_comes_24 : decode cX9_comes 24 = .ok (.if_icmp .ne 12, 3) := by decide +kernel
theorem dX9_comes_27 : decode cX9_comes 27 = .ok (.iload_n 3, 1) := by decide +kernel
theorem dX9_comes_28 : decode cX9_comes 28 = .ok (.iconst (-1), 1) := by decide +kernel
theorem dX9_comes_29 : decode cX9_comes 29 = .ok (.if_icmp .ne 7, 3) := by decide +kernel
theorem dX9_comes_32 : decode cX9_comes 32 = .ok (.iconst 1, 1) := by decide +kernel
theorem dX9_comes_33 : decode cX9_comes 33 = .ok (.goto 4, 3) := by decide +kernel
theorem dX9_comes_36 : decode cX9_comes 36 = .ok (.iconst 0, 1) := by decide +kernel
theorem dX9_comes_37 : decode cX9_comes 37 = .ok (.istore 5, 2) := by decide +kernel
theorem dX9_comes_39 : decode cX9_comes 39 = .ok (.aload_n 0, 1) := by decide +kernel
theorem dX9_comes_40 : decode cX9_comes 40 = .ok (.getfield 45, 3) := by decide +kernel
theorem dX9_comes_43 : decode cX9_comes 43 = .ok (.iload_n 1, 1) := by decide +kernel
theorem dX9_comes_44 : decode cX9_comes 44 = .ok (.iaload, 1) := by decide +kernel
theorem dX9_comes_45 : decode cX9_comes 45 = .ok (.iconst 1, 1) := by decide +kernel
theorem dX9_comes_46 : decode cX9_comes 46 = .ok (.if_icmp .ne 17, 3) := by decide +kernel
theorem dX9_comes_49 : decode cX9_comes 49 = .ok (.aload_n 0, 1) := by decide +kernel
theorem dX9_comes_50 : decode cX9_comes 50 = .ok (.getfield 78, 3) := by decide +kernel
theorem dX9_comes_53 : decode cX9_comes 53 = .ok (.aload_n 0, 1) := by decide +kernel
theorem dX9_comes_54 : decode cX9_comes 54 = .ok (.getfield 51, 3) := by decide +kernel
theorem dX9_comes_57 : decode cX9_comes 57 = .ok (.iload_n 1, 1) := by decide +kernel
theorem dX9_comes_58 : decode cX9_comes 58 = .ok (.iaload, 1) := by decide +kernel
theorem dX9_comes_59 : decode cX9_comes 59 = .ok (.iaload, 1) := by decide +kernel
theorem dX9_comes_60 : decode cX9_comes 60 = .ok (.goto 5, 3) := by decide +kernel
theorem dX9_comes_63 : decode cX9_comes 63 = .ok (.bipush 40, 2) := by decide +kernel
theorem dX9_comes_65 : decode cX9_comes 65 = .ok (.istore 6, 2) := by decide +kernel
theorem dX9_comes_67 : decode cX9_comes 67 = .ok (.iload 5, 2) := by decide +kernel
theorem dX9_comes_69 : decode cX9_comes 69 = .ok (.ifCond .ne 24, 3) := by decide +kernel
theorem dX9_comes_72 : decode cX9_comes 72 = .ok (.iload_n 2, 1) := by decide +kernel
theorem dX9_comes_73 : decode cX9_comes 73 = .ok (.ifCond .lt 14, 3) := by decide +kernel
theorem dX9_comes_76 : decode cX9_comes 76 = .ok (.iload_n 3, 1) := by decide +kernel
theorem dX9_comes_77 : decode cX9_comes 77 = .ok (.iload_n 2, 1) := by decide +kernel
theorem dX9_comes_78 : decode cX9_comes 78 = .ok (.if_icmp .lt 9, 3) := by decide +kernel
theorem dX9_comes_81 : decode cX9_comes 81 = .ok (.iload_n 3, 1) := by decide +kernel
theorem dX9_comes_82 : decode cX9_comes 82 = .ok (.iload 6, 2) := by decide +kernel
theorem dX9_comes_84 : decode cX9_comes 84 = .ok (.if_icmp .lt 9, 3) := by decide +kernel
theorem dX9_comes_87 : decode cX9_comes 87 = .ok (.aload_n 0, 1) := by decide +kernel
theorem dX9_comes_88 : decode cX9_comes 88 = .ok (.iconst 1, 1) := by decide +kernel
theorem dX9_comes_89 : decode cX9_comes 89 = .ok (.invokevirtual 139, 3) := by decide +kernel
theorem dX9_comes_92 : decode cX9_comes 92 = .ok (.ireturn, 1) := by decide +kernel
theorem dX9_comes_93 : decode cX9_comes 93 = .ok (.iload 4, 2) := by decide +kernel
theorem dX9_comes_95 : decode cX9_comes 95 = .ok (.aload_n 0, 1) := by decide +kernel
theorem dX9_comes_96 : decode cX9_comes 96 = .ok (.getfield 229, 3) := by decide +kernel
theorem dX9_comes_99 : decode cX9_comes 99 = .ok (.if_icmp .ge 9, 3) := by decide +kernel
theorem dX9_comes_102 : decode cX9_comes 102 = .ok (.aload_n 0, 1) := by decide +kernel
theorem dX9_comes_103 : decode cX9_comes 103 = .ok (.iconst 2, 1) := by decide +kernel
theorem dX9_comes_104 : decode cX9_comes 104 = .ok (.invokevirtual 139, 3) := by decide +kernel
theorem dX9_comes_107 : decode cX9_comes 107 = .ok (.ireturn, 1) := by decide +kernel
theorem dX9_comes_108 : decode cX9_comes 108 = .ok (.aload_n 0, 1) := by decide +kernel
theorem dX9_comes_109 : decode cX9_comes 109 = .ok (.getfield 45, 3) := by decide +kernel
theorem dX9_comes_112 : decode cX9_comes 112 = .ok (.iload_n 1, 1) := by decide +kernel
theorem dX9_comes_113 : decode cX9_comes 113 = .ok (.iaload, 1) := by decide +kernel
theorem dX9_comes_114 : decode cX9_comes 114 = .ok (.iconst 1, 1) := by decide +kernel
theorem dX9_comes_115 : decode cX9_comes 115 = .ok (.if_icmp .eq 10, 3) := by decide +kernel
theorem dX9_comes_118 : decode cX9_comes 118 = .ok (.aload_n 0, 1) := by decide +kernel
theorem dX9_comes_119 : decode cX9_comes 119 = .ok (.bipush 7, 2) := by decide +kernel
theorem dX9_comes_121 : decode cX9_comes 121 = .ok (.invokevirtual 139, 3) := by decide +kernel
theorem dX9_comes_124 : decode cX9_comes 124 = .ok (.ireturn, 1) := by decide +kernel
theorem dX9_comes_125 : decode cX9_comes 125 = .ok (.aload_n 0, 1) := by decide +kernel
theorem dX9_comes_126 : decode cX9_comes 126 = .ok (.iload 4, 2) := by decide +kernel
theorem dX9_comes_128 : decode cX9_comes 128 = .ok (.putfield 229, 3) := by decide +kernel
theorem dX9_comes_131 : decode cX9_comes 131 = .ok (.aload_n 0, 1) := by decide +kernel
theorem dX9_comes_132 : decode cX9_comes 132 = .ok (.iconst 0, 1) := by decide +kernel
theorem dX9_comes_133 : decode cX9_comes 133 = .ok (.putfield 109, 3) := by decide +kernel
theorem dX9_comes_136 : decode cX9_comes 136 = .ok (.aload_n 0, 1) := by decide +kernel
theorem dX9_comes_137 : decode cX9_comes 137 = .ok (.getfield 51, 3) := by decide +kernel
theorem dX9_comes_140 : decode cX9_comes 140 = .ok (.iload_n 1, 1) := by decide +kernel
theorem dX9_comes_141 : decode cX9_comes 141 = .ok (.iaload, 1) := by decide +kernel
theorem dX9_comes_142 : decode cX9_comes 142 = .ok (.istore 7, 2) := by decide +kernel
theorem dX9_comes_144 : decode cX9_comes 144 = .ok (.aload_n 0, 1) := by decide +kernel
theorem dX9_comes_145 : decode cX9_comes 145 = .ok (.getfield 39, 3) := by decide +kernel
theorem dX9_comes_148 : decode cX9_comes 148 = .ok (.iload_n 1, 1) := by decide +kernel
theorem dX9_comes_149 : decode cX9_comes 149 = .ok (.iaload, 1) := by decide +kernel
theorem dX9_comes_150 : decode cX9_comes 150 = .ok (.istore 8, 2) := by decide +kernel
theorem dX9_comes_152 : decode cX9_comes 152 = .ok (.aload_n 0, 1) := by decide +kernel
theorem dX9_comes_153 : decode cX9_comes 153 = .ok (.getfield 45, 3) := by decide +kernel
theorem dX9_comes_156 : decode cX9_comes 156 = .ok (.iload_n 1, 1) := by decide +kernel
theorem dX9_comes_157 : decode cX9_comes 157 = .ok (.iconst 0, 1) := by decide +kernel
theorem dX9_comes_158 : decode cX9_comes 158 = .ok (.iastore, 1) := by decide +kernel
theorem dX9_comes_159 : decode cX9_comes 159 = .ok (.aload_n 0, 1) := by decide +kernel
theorem dX9_comes_160 : decode cX9_comes 160 = .ok (.getfield 42, 3) := by decide +kernel
theorem dX9_comes_163 : decode cX9_comes 163 = .ok (.iload_n 1, 1) := by decide +kernel
theorem dX9_comes_164 : decode cX9_comes 164 = .ok (.iload 8, 2) := by decide +kernel
theorem dX9_comes_166 : decode cX9_comes 166 = .ok (.iastore, 1) := by decide +kernel
theorem dX9_comes_167 : decode cX9_comes 167 = .ok (.aload_n 0, 1) := by decide +kernel
theorem dX9_comes_168 : decode cX9_comes 168 = .ok (.getfield 48, 3) := by decide +kernel
theorem dX9_comes_171 : decode cX9_comes 171 = .ok (.iload_n 1, 1) := by decide +kernel
theorem dX9_comes_172 : decode cX9_comes 172 = .ok (.iload 4, 2) := by decide +kernel
theorem dX9_comes_174 : decode cX9_comes 174 = .ok (.bipush 60, 2) := by decide +kernel
theorem dX9_comes_176 : decode cX9_comes 176 = .ok (.iadd, 1) := by decide +kernel
theorem dX9_comes_177 : decode cX9_comes 177 = .ok (.iastore, 1) := by decide +kernel
theorem dX9_comes_178 : decode cX9_comes 178 = .ok (.aload_n 0, 1) := by decide +kernel
theorem dX9_comes_179 : decode cX9_comes 179 = .ok (.getfield 84, 3) := by decide +kernel
theorem dX9_comes_182 : decode cX9_comes 182 = .ok (.iload 7, 2) := by decide +kernel
theorem dX9_comes_184 : decode cX9_comes 184 = .ok (.dup2, 1) := by decide +kernel
theorem dX9_comes_185 : decode cX9_comes 185 = .ok (.iaload, 1) := by decide +kernel
theorem dX9_comes_186 : decode cX9_comes 186 = .ok (.iconst 1, 1) := by decide +kernel
theorem dX9_comes_187 : decode cX9_comes 187 = .ok (.iadd, 1) := by decide +kernel
theorem dX9_comes_188 : decode cX9_comes 188 = .ok (.iastore, 1) := by decide +kernel
theorem dX9_comes_189 : decode cX9_comes 189 = .ok (.iconst 1, 1) := by decide +kernel
theorem dX9_comes_190 : decode cX9_comes 190 = .ok (.istore 9, 2) := by decide +kernel
theorem dX9_comes_192 : decode cX9_comes 192 = .ok (.iconst 0, 1) := by decide +kernel
theorem dX9_comes_193 : decode cX9_comes 193 = .ok (.istore 10, 2) := by decide +kernel
theorem dX9_comes_195 : decode cX9_comes 195 = .ok (.iload 10, 2) := by decide +kernel
theorem dX9_comes_197 : decode cX9_comes 197 = .ok (.aload_n 0, 1) := by decide +kernel
theorem dX9_comes_198 : decode cX9_comes 198 = .ok (.getfield 78, 3) := by decide +kernel
theorem dX9_comes_201 : decode cX9_comes 201 = .ok (.iload 7, 2) := by decide +kernel
theorem dX9_comes_203 : decode cX9_comes 203 = .ok (.iaload, 1) := by decide +kernel
theorem dX9_comes_204 : decode cX9_comes 204 = .ok (.if_icmp .ge 78, 3) := by decide +kernel
theorem dX9_comes_207 : decode cX9_comes 207 = .ok (.iload 5, 2) := by decide +kernel
theorem dX9_comes_209 : decode cX9_comes 209 = .ok (.ifCond .ne 15, 3) := by decide +kernel
theorem dX9_comes_212 : decode cX9_comes 212 = .ok (.iload 10, 2) := by decide +kernel
theorem dX9_comes_214 : decode cX9_comes 214 = .ok (.iload_n 2, 1) := by decide +kernel
theorem dX9_comes_215 : decode cX9_comes 215 = .ok (.if_icmp .lt 9, 3) := by decide +kernel
theorem dX9_comes_218 : decode cX9_comes 218 = .ok (.iload 10, 2) := by decide +kernel
theorem dX9_comes_220 : decode cX9_comes 220 = .ok (.iload_n 3, 1) := by decide +kernel
theorem dX9_comes_221 : decode cX9_comes 221 = .ok (.if_icmp .le 22, 3) := by decide +kernel
theorem dX9_comes_224 : decode cX9_comes 224 = .ok (.aload_n 0, 1) := by decide +kernel
theorem dX9_comes_225 : decode cX9_comes 225 = .ok (.getfield 96, 3) := by decide +kernel
theorem dX9_comes_228 : decode cX9_comes 228 = .ok (.bipush 40, 2) := by decide +kernel
theorem dX9_comes_230 : decode cX9_comes 230 = .ok (.iload 7, 2) := by decide +kernel
theorem dX9_comes_232 : decode cX9_comes 232 = .ok (.iload 8, 2) := by decide +kernel
theorem dX9_comes_234 : decode cX9_comes 234 = .ok (.invokestatic 234, 3) := by decide +kernel
theorem dX9_comes_237 : decode cX9_comes 237 = .ok (.imul, 1) := by decide +kernel
theorem dX9_comes_238 : decode cX9_comes 238 = .ok (.iload 10, 2) := by decide +kernel
theorem dX9_comes_240 : decode cX9_comes 240 = .ok (.iadd, 1) := by decide +kernel
theorem dX9_comes_241 : decode cX9_comes 241 = .ok (.iconst 1, 1) := by decide +kernel
theorem dX9_comes_242 : decode cX9_comes 242 = .ok (.bastore, 1) := by decide +kernel
theorem dX9_comes_243 : decode cX9_comes 243 = .ok (.iload 9, 2) := by decide +kernel
theorem dX9_comes_245 : decode cX9_comes 245 = .ok (.ifCond .eq 28, 3) := by decide +kernel
theorem dX9_comes_248 : decode cX9_comes 248 = .ok (.aload_n 0, 1) := by decide +kernel
theorem dX9_comes_249 : decode cX9_comes 249 = .ok (.getfield 96, 3) := by decide +kernel
theorem dX9_comes_252 : decode cX9_comes 252 = .ok (.bipush 40, 2) := by decide +kernel
theorem dX9_comes_254 : decode cX9_comes 254 = .ok (.iload 7, 2) := by decide +kernel
theorem dX9_comes_256 : decode cX9_comes 256 = .ok (.iload 8, 2) := by decide +kernel
theorem dX9_comes_258 : decode cX9_comes 258 = .ok (.invokestatic 234, 3) := by decide +kernel
theorem dX9_comes_261 : decode cX9_comes 261 = .ok (.imul, 1) := by decide +kernel
theorem dX9_comes_262 : decode cX9_comes 262 = .ok (.iload 10, 2) := by decide +kernel
theorem dX9_comes_264 : decode cX9_comes 264 = .ok (.iadd, 1) := by decide +kernel
theorem dX9_comes_265 : decode cX9_comes 265 = .ok (.baload, 1) := by decide +kernel
theorem dX9_comes_266 : decode cX9_comes 266 = .ok (.ifCond .eq 7, 3) := by decide +kernel
theorem dX9_comes_269 : decode cX9_comes 269 = .ok (.iconst 1, 1) := by decide +kernel
theorem dX9_comes_270 : decode cX9_comes 270 = .ok (.goto 4, 3) := by decide +kernel
theorem dX9_comes_273 : decode cX9_comes 273 = .ok (.iconst 0, 1) := by decide +kernel
theorem dX9_comes_274 : decode cX9_comes 274 = .ok (.istore 9, 2) := by decide +kernel
theorem dX9_comes_276 : decode cX9_comes 276 = .ok (.iinc 10 1, 3) := by decide +kernel
theorem dX9_comes_279 : decode cX9_comes 279 = .ok (.goto (-84), 3) := by decide +kernel
theorem dX9_comes_282 : decode cX9_comes 282 = .ok (.iload 9, 2) := by decide +kernel
theorem dX9_comes_284 : decode cX9_comes 284 = .ok (.ifCond .eq 19, 3) := by decide +kernel
theorem dX9_comes_287 : decode cX9_comes 287 = .ok (.aload_n 0, 1) := by decide +kernel
theorem dX9_comes_288 : decode cX9_comes 288 = .ok (.getfield 93, 3) := by decide +kernel
theorem dX9_comes_291 : decode cX9_comes 291 = .ok (.iload 7, 2) := by decide +kernel
theorem dX9_comes_293 : decode cX9_comes 293 = .ok (.iload 8, 2) := by decide +kernel
theorem dX9_comes_295 : decode cX9_comes 295 = .ok (.invokestatic 234, 3) := by decide +kernel
theorem dX9_comes_298 : decode cX9_comes 298 = .ok (.iaload, 1) := by decide +kernel
theorem dX9_comes_299 : decode cX9_comes 299 = .ok (.iconst (-1), 1) := by decide +kernel
theorem dX9_comes_300 : decode cX9_comes 300 = .ok (.if_icmp .eq 5, 3) := by decide +kernel
theorem dX9_comes_303 : decode cX9_comes 303 = .ok (.iconst 0, 1) := by decide +kernel
theorem dX9_comes_304 : decode cX9_comes 304 = .ok (.ireturn, 1) := by decide +kernel
theorem dX9_comes_305 : decode cX9_comes 305 = .ok (.aload_n 0, 1) := by decide +kernel
theorem dX9_comes_306 : decode cX9_comes 306 = .ok (.getfield 93, 3) := by decide +kernel
theorem dX9_comes_309 : decode cX9_comes 309 = .ok (.iload 7, 2) := by decide +kernel
theorem dX9_comes_311 : decode cX9_comes 311 = .ok (.iload 8, 2) := by decide +kernel
theorem dX9_comes_313 : decode cX9_comes 313 = .ok (.invokestatic 234, 3) := by decide +kernel
theorem dX9_comes_316 : decode cX9_comes 316 = .ok (.iload 4, 2) := by decide +kernel
theorem dX9_comes_318 : decode cX9_comes 318 = .ok (.iastore, 1) := by decide +kernel
theorem dX9_comes_319 : decode cX9_comes 319 = .ok (.iconst 1, 1) := by decide +kernel
theorem dX9_comes_320 : decode cX9_comes 320 = .ok (.ireturn, 1) := by decide +kernel
theorem dX9_copies_0 : decode cX9_copies 0 = .ok (.aload_n 0, 1) := by decide +kernel
theorem dX9_copies_1 : decode cX9_copies 1 = .ok (.iload_n 1, 1) := by decide +kernel
theorem dX9_copies_2 : decode cX9_copies 2 = .ok (.invokevirtual 237, 3) := by decide +kernel
theorem dX9_copies_5 : decode cX9_copies 5 = .ok (.ifCond .eq 12, 3) := by decide +kernel
theorem dX9_copies_8 : decode cX9_copies 8 = .ok (.iload_n 2, 1) := by decide +kernel
theorem dX9_copies_9 : decode cX9_copies 9 = .ok (.ifCond .lt 8, 3) := by decide +kernel
theorem dX9_copies_12 : decode cX9_copies 12 = .ok (.iload_n 2, 1) := by decide +kernel
theorem dX9_copies_13 : decode cX9_copies 13 = .ok (.iconst 2, 1) := by decide +kernel
theorem dX9_copies_14 : decode cX9_copies 14 = .ok (.if_icmp .le 9, 3) := by decide +kernel
theorem dX9_copies_17 : decode cX9_copies 17 = .ok (.aload_n 0, 1) := by decide +kernel
theorem dX9_copies_18 : decode cX9_copies 18 = .ok (.iconst 1, 1) := by decide +kernel
theorem dX9_copies_19 : decode cX9_copies 19 = .ok (.invokevirtual 139, 3) := by decide +kernel
theorem dX9_copies_22 : decode cX9_copies 22 = .ok (.ireturn, 1) := by decide +kernel
theorem dX9_copies_23 : decode cX9_copies 23 = .ok (.aload_n 0, 1) := by decide +kernel
theorem dX9_copies_24 : decode cX9_copies 24 = .ok (.iconst 0, 1) := by decide +kernel
theorem dX9_copies_25 : decode cX9_copies 25 = .ok (.putfield 109, 3) := by decide +kernel
theorem dX9_copies_28 : decode cX9_copies 28 = .ok (.iload_n 2, 1) := by decide +kernel
theorem dX9_copies_29 : decode cX9_copies 29 = .ok (.ifCond .ne 12, 3) := by decide +kernel
theorem dX9_copies_32 : decode cX9_copies 32 = .ok (.aload_n 0, 1) := by decide +kernel
theorem dX9_copies_33 : decode cX9_copies 33 = .ok (.getfield 81, 3) := by decide +kernel
theorem dX9_copies_36 : decode cX9_copies 36 = .ok (.iload_n 1, 1) := by decide +kernel
theorem dX9_copies_37 : decode cX9_copies 37 = .ok (.iaload, 1) := by decide +kernel
theorem dX9_copies_38 : decode cX9_copies 38 = .ok (.goto 23, 3) := by decide +kernel
theorem dX9_copies_41 : decode cX9_copies 41 = .ok (.iload_n 2, 1) := by decide +kernel
theorem dX9_copies_42 : decode cX9_copies 42 = .ok (.iconst 1, 1) := by decide +kernel
theorem dX9_copies_43 : decode cX9_copies 43 = .ok (.if_icmp .ne 12, 3) := by decide +kernel
theorem dX9_copies_46 : decode cX9_copies 46 = .ok (.aload_n 0, 1) := by decide +kernel
theorem dX9_copies_47 : decode cX9_copies 47 = .ok (.getfield 84, 3) := by decide +kernel
theorem dX9_copies_50 : decode cX9_copies 50 = .ok (.iload_n 1, 1) := by decide +kernel
theorem dX9_copies_51 : decode cX9_copies 51 = .ok (.iaload, 1) := by decide +kernel
theorem dX9_copies_52 : decode cX9_copies 52 = .ok (.goto 9, 3) := by decide +kernel
theorem dX9_copies_55 : decode cX9_copies 55 = .ok (.aload_n 0, 1) := by decide +kernel
theorem dX9_copies_56 : decode cX9_copies 56 = .ok (.getfield 87, 3) := by decide +kernel
theorem dX9_copies_59 : decode cX9_copies 59 = .ok (.iload_n 1, 1) := by decide +kernel
theorem dX9_copies_60 : decode cX9_copies 60 = .ok (.iaload, 1) := by decide +kernel
theorem dX9_copies_61 : decode cX9_copies 61 = .ok (.ireturn, 1) := by decide +kernel
theorem dX9_count_0 : decode cX9_count 0 = .ok (.iconst 0, 1) := by decide +kernel
theorem dX9_count_1 : decode cX9_count 1 = .ok (.istore_n 3, 1) := by decide +kernel
theorem dX9_count_2 : decode cX9_count 2 = .ok (.iconst 0, 1) := by decide +kernel
theorem dX9_count_3 : decode cX9_count 3 = .ok (.istore 4, 2) := by decide +kernel
theorem dX9_count_5 : decode cX9_count 5 = .ok (.iload 4, 2) := by decide +kernel
theorem dX9_count_7 : decode cX9_count 7 = .ok (.aload_n 0, 1) := by decide +kernel
theorem dX9_count_8 : decode cX9_count 8 = .ok (.getfield 136, 3) := by decide +kernel
theorem dX9_count_11 : decode cX9_count 11 = .ok (.if_icmp .ge 49, 3) := by decide +kernel
theorem dX9_count_14 : decode cX9_count 14 = .ok (.iload_n 3, 1) := by decide +kernel
theorem dX9_count_15 : decode cX9_count 15 = .ok (.aload_n 0, 1) := by decide +kernel
theorem dX9_count_16 : decode cX9_count 16 = .ok (.getfield 39, 3) := by decide +kernel
theorem dX9_count_19 : decode cX9_count 19 = .ok (.iload 4, 2) := by decide +kernel
theorem dX9_count_21 : decode cX9_count 21 = .ok (.iaload, 1) := by decide +kernel
theorem dX9_count_22 : decode cX9_count 22 = .ok (.iload_n 1, 1) := by decide +kernel
theorem dX9_count_23 : decode cX9_count 23 = .ok (.if_icmp .ne 28, 3) := by decide +kernel
theorem dX9_count_26 : decode cX9_count 26 = .ok (.aload_n 0, 1) := by decide +kernel
theorem dX9_count_27 : decode cX9_count 27 = .ok (.getfield 45, 3) := by decide +kernel
theorem dX9_count_30 : decode cX9_count 30 = .ok (.iload 4, 2) := by decide +kernel
theorem dX9_count_32 : decode cX9_count 32 = .ok (.iaload, 1) := by decide +kernel
theorem dX9_count_33 : decode cX9_count 33 = .ok (.ifCond .ne 18, 3) := by decide +kernel
theorem dX9_count_36 : decode cX9_count 36 = .ok (.aload_n 0, 1) := by decide +kernel
theorem dX9_count_37 : decode cX9_count 37 = .ok (.getfield 42, 3) := by decide +kernel
theorem dX9_count_40 : decode cX9_count 40 = .ok (.iload 4, 2) := by decide +kernel
theorem dX9_count_42 : decode cX9_count 42 = .ok (.iaload, 1) := by decide +kernel
theorem dX9_count_43 : decode cX9_count 43 = .ok (.iload_n 2, 1) := by decide +kernel
theorem dX9_count_44 : decode cX9_count 44 = .ok (.if_icmp .ne 7, 3) := by decide +kernel
theorem dX9_count_47 : decode cX9_count 47 = .ok (.iconst 1, 1) := by decide +kernel
theorem dX9_count_48 : decode cX9_count 48 = .ok (.goto 4, 3) := by decide +kernel
theorem dX9_count_51 : decode cX9_count 51 = .ok (.iconst 0, 1) := by decide +kernel
theorem dX9_count_52 : decode cX9_count 52 = .ok (.iadd, 1) := by decide +kernel
theorem dX9_count_53 : decode cX9_count 53 = .ok (.istore_n 3, 1) := by decide +kernel
theorem dX9_count_54 : decode cX9_count 54 = .ok (.iinc 4 1, 3) := by decide +kernel
theorem dX9_count_57 : decode cX9_count 57 = .ok (.goto (-52), 3) := by decide +kernel
theorem dX9_count_60 : decode cX9_count 60 = .ok (.iload_n 3, 1) := by decide +kernel
theorem dX9_count_61 : decode cX9_count 61 = .ok (.ireturn, 1) := by decide +kernel
theorem dX9_cut_0 : decode cX9_cut 0 = .ok (.iload_n 2, 1) := by decide +kernel
theorem dX9_cut_1 : decode cX9_cut 1 = .ok (.ifCond .ne 10, 3) := by decide +kernel
theorem dX9_cut_4 : decode cX9_cut 4 = .ok (.lload_n 0, 1) := by decide +kernel
theorem dX9_cut_5 : decode cX9_cut 5 = .ok (.l2i, 1) := by decide +kernel
theorem dX9_cut_6 : decode cX9_cut 6 = .ok (.i2b, 1) := by decide +kernel
theorem dX9_cut_7 : decode cX9_cut 7 = .ok (.i2l, 1) := by decide +kernel
theorem dX9_cut_8 : decode cX9_cut 8 = .ok (.goto 27, 3) := by decide +kernel
theorem dX9_cut_11 : decode cX9_cut 11 = .ok (.iload_n 2, 1) := by decide +kernel
theorem dX9_cut_12 : decode cX9_cut 12 = .ok (.iconst 1, 1) := by decide +kernel
theorem dX9_cut_13 : decode cX9_cut 13 = .ok (.if_icmp .ne 10, 3) := by decide +kernel
theorem dX9_cut_16 : decode cX9_cut 16 = .ok (.lload_n 0, 1) := by decide +kernel
theorem dX9_cut_17 : decode cX9_cut 17 = .ok (.l2i, 1) := by decide +kernel
theorem dX9_cut_18 : decode cX9_cut 18 = .ok (.i2s, 1) := by decide +kernel
theorem dX9_cut_19 : decode cX9_cut 19 = .ok (.i2l, 1) := by decide +kernel
theorem dX9_cut_20 : decode cX9_cut 20 = .ok (.goto 15, 3) := by decide +kernel
theorem dX9_cut_23 : decode cX9_cut 23 = .ok (.iload_n 2, 1) := by decide +kernel
theorem dX9_cut_24 : decode cX9_cut 24 = .ok (.iconst 2, 1) := by decide +kernel
theorem dX9_cut_25 : decode cX9_cut 25 = .ok (.if_icmp .ne 9, 3) := by decide +kernel
theorem dX9_cut_28 : decode cX9_cut 28 = .ok (.lload_n 0, 1) := by decide +kernel
theorem dX9_cut_29 : decode cX9_cut 29 = .ok (.l2i, 1) := by decide +kernel
theorem dX9_cut_30 : decode cX9_cut 30 = .ok (.i2l, 1) := by decide +kernel
theorem dX9_cut_31 : decode cX9_cut 31 = .ok (.goto 4, 3) := by decide +kernel
theorem dX9_cut_34 : decode cX9_cut 34 = .ok (.lload_n 0, 1) := by decide +kernel
theorem dX9_cut_35 : decode cX9_cut 35 = .ok (.lreturn, 1) := by decide +kernel
theorem dX9_doubles_0 : decode cX9_doubles 0 = .ok (.iload_n 3, 1) := by decide +kernel
theorem dX9_doubles_1 : decode cX9_doubles 1 = .ok (.iload 4, 2) := by decide +kernel
theorem dX9_doubles_3 : decode cX9_doubles 3 = .ok (.invokestatic 166, 3) := by decide +kernel
theorem dX9_doubles_6 : decode cX9_doubles 6 = .ok (.ifCond .ne 7, 3) := by decide +kernel
theorem dX9_doubles_9 : decode cX9_doubles 9 = .ok (.iconst 1, 1) := by decide +kernel
theorem dX9_doubles_10 : decode cX9_doubles 10 = .ok (.goto 9, 3) := by decide +kernel
theorem dX9_doubles_13 : decode cX9_doubles 13 = .ok (.aload_n 0, 1) := by decide +kernel
theorem dX9_doubles_14 : decode cX9_doubles 14 = .ok (.iload_n 1, 1) := by decide +kernel
theorem dX9_doubles_15 : decode cX9_doubles 15 = .ok (.iload_n 2, 1) := by decide +kernel
theorem dX9_doubles_16 : decode cX9_doubles 16 = .ok (.invokevirtual 155, 3) := by decide +kernel
theorem dX9_doubles_19 : decode cX9_doubles 19 = .ok (.istore 5, 2) := by decide +kernel
theorem dX9_doubles_21 : decode cX9_doubles 21 = .ok (.iload 5, 2) := by decide +kernel
theorem dX9_doubles_23 : decode cX9_doubles 23 = .ok (.ifCond .le 10, 3) := by decide +kernel
theorem dX9_doubles_26 : decode cX9_doubles 26 = .ok (.aload_n 0, 1) := by decide +kernel
theorem dX9_doubles_27 : decode cX9_doubles 27 = .ok (.iload 5, 2) := by decide +kernel
theorem dX9_doubles_29 : decode cX9_doubles 29 = .ok (.invokevirtual 139, 3) := by decide +kernel
theorem dX9_doubles_32 : decode cX9_doubles 32 = .ok (.ireturn, 1) := by decide +kernel
theorem dX9_doubles_33 : decode cX9_doubles 33 = .ok (.aload_n 0, 1) := by decide +kernel
theorem dX9_doubles_34 : decode cX9_doubles 34 = .ok (.iconst 0, 1) := by decide +kernel
theorem dX9_doubles_35 : decode cX9_doubles 35 = .ok (.putfield 109, 3) := by decide +kernel
theorem dX9_doubles_38 : decode cX9_doubles 38 = .ok (.iconst 1, 1) := by decide +kernel
theorem dX9_doubles_39 : decode cX9_doubles 39 = .ok (.istore 6, 2) := by decide +kernel
theorem dX9_doubles_41 : decode cX9_doubles 41 = .ok (.iload 6, 2) := by decide +kernel
theorem dX9_doubles_43 : decode cX9_doubles 43 = .ok (.iconst 4, 1) := by decide +kernel
theorem dX9_doubles_44 : decode cX9_doubles 44 = .ok (.if_icmp .gt 53, 3) := by decide +kernel
theorem dX9_doubles_47 : decode cX9_doubles 47 = .ok (.bipush 10, 2) := by decide +kernel
theorem dX9_doubles_49 : decode cX9_doubles 49 = .ok (.iload 6, 2) := by decide +kernel
theorem dX9_doubles_51 : decode cX9_doubles 51 = .ok (.invokestatic 158, 3) := by decide +kernel
theorem dX9_doubles_54 : decode cX9_doubles 54 = .ok (.aload_n 0, 1) := by decide +kernel
theorem dX9_doubles_55 : decode cX9_doubles 55 = .ok (.getfield 27, 3) := by decide +kernel
theorem dX9_doubles_58 : decode cX9_doubles 58 = .ok (.iload_n 1, 1) := by decide +kernel
theorem dX9_doubles_59 : decode cX9_doubles 59 = .ok (.iload_n 2, 1) := by decide +kernel
theorem dX9_doubles_60 : decode cX9_doubles 60 = .ok (.invokestatic 143, 3) := by decide +kernel
theorem dX9_doubles_63 : decode cX9_doubles 63 = .ok (.iaload, 1) := by decide +kernel
theorem dX9_doubles_64 : decode cX9_doubles 64 = .ok (.iload 6, 2) := by decide +kernel
theorem dX9_doubles_66 : decode cX9_doubles 66 = .ok (.invokestatic 158, 3) := by decide +kernel
theorem dX9_doubles_69 : decode cX9_doubles 69 = .ok (.lsub, 1) := by decide +kernel
theorem dX9_doubles_70 : decode cX9_doubles 70 = .ok (.iload 4, 2) := by decide +kernel
theorem dX9_doubles_72 : decode cX9_doubles 72 = .ok (.i2l, 1) := by decide +kernel
theorem dX9_doubles_73 : decode cX9_doubles 73 = .ok (.lmul, 1) := by decide +kernel
theorem dX9_doubles_74 : decode cX9_doubles 74 = .ok (.iload_n 3, 1) := by decide +kernel
theorem dX9_doubles_75 : decode cX9_doubles 75 = .ok (.i2l, 1) := by decide +kernel
theorem dX9_doubles_76 : decode cX9_doubles 76 = .ok (.bipush 10, 2) := by decide +kernel
theorem dX9_doubles_78 : decode cX9_doubles 78 = .ok (.iload 6, 2) := by decide +kernel
theorem dX9_doubles_80 : decode cX9_doubles 80 = .ok (.invokestatic 158, 3) := by decide +kernel
theorem dX9_doubles_83 : decode cX9_doubles 83 = .ok (.lmul, 1) := by decide +kernel
theorem dX9_doubles_84 : decode cX9_doubles 84 = .ok (.lcmp, 1) := by decide +kernel
theorem dX9_doubles_85 : decode cX9_doubles 85 = .ok (.ifCond .lt 6, 3) := by decide +kernel
theorem dX9_doubles_88 : decode cX9_doubles 88 = .ok (.iload 6, 2) := by decide +kernel
theorem dX9_doubles_90 : decode cX9_doubles 90 = .ok (.ireturn, 1) := by decide +kernel
theorem dX9_doubles_91 : decode cX9_doubles 91 = .ok (.iinc 6 1, 3) := by decide +kernel
theorem dX9_doubles_94 : decode cX9_doubles 94 = .ok (.goto (-53), 3) := by decide +kernel
theorem dX9_doubles_97 : decode cX9_doubles 97 = .ok (.aload_n 0, 1) := by decide +kernel
theorem dX9_doubles_98 : decode cX9_doubles 98 = .ok (.bipush 6, 2) := by decide +kernel
theorem dX9_doubles_100 : decode cX9_doubles 100 = .ok (.invokevirtual 139, 3) := by decide +kernel
theorem dX9_doubles_103 : decode cX9_doubles 103 = .ok (.ireturn, 1) := by decide +kernel
theorem dX9_fare_0 : decode cX9_fare 0 = .ok (.aload_n 0, 1) := by decide +kernel
theorem dX9_fare_1 : decode cX9_fare 1 = .ok (.iload_n 1, 1) := by decide +kernel
theorem dX9_fare_2 : decode cX9_fare 2 = .ok (.invokevirtual 146, 3) := by decide +kernel
theorem dX9_fare_5 : decode cX9_fare 5 = .ok (.ifCond .eq 27, 3) := by decide +kernel
theorem dX9_fare_8 : decode cX9_fare 8 = .ok (.aload_n 0, 1) := by decide +kernel
theorem dX9_fare_9 : decode cX9_fare 9 = .ok (.iload_n 2, 1) := by decide +kernel
theorem dX9_fare_10 : decode cX9_fare 10 = .ok (.invokevirtual 146, 3) := by decide +kernel
theorem dX9_fare_13 : decode cX9_fare 13 = .ok (.ifCond .eq 19, 3) := by decide +kernel
theorem dX9_fare_16 : decode cX9_fare 16 = .ok (.iload_n 1, 1) := by decide +kernel
theorem dX9_fare_17 : decode cX9_fare 17 = .ok (.iload_n 2, 1) := by decide +kernel
theorem dX9_fare_18 : decode cX9_fare 18 = .ok (.if_icmp .eq 14, 3) := by decide +kernel
theorem dX9_fare_21 : decode cX9_fare 21 = .ok (.iload_n 3, 1) := by decide +kernel
theorem dX9_fare_22 : decode cX9_fare 22 = .ok (.ifCond .lt 10, 3) := by decide +kernel
theorem dX9_fare_25 : decode cX9_fare 25 = .ok (.iload_n 3, 1) := by decide +kernel
theorem dX9_fare_26 : decode cX9_fare 26 = .ok (.sipush 1000, 3) := by decide +kernel
theorem dX9_fare_29 : decode cX9_fare 29 = .ok (.if_icmp .le 9, 3) := by decide +kernel
theorem dX9_fare_32 : decode cX9_fare 32 = .ok (.aload_n 0, 1) := by decide +kernel
theorem dX9_fare_33 : decode cX9_fare 33 = .ok (.iconst 1, 1) := by decide +kernel
theorem dX9_fare_34 : decode cX9_fare 34 = .ok (.invokevirtual 120, 3) := by decide +kernel
theorem dX9_fare_37 : decode cX9_fare 37 = .ok (.ireturn, 1) := by decide +kernel
theorem dX9_fare_38 : decode cX9_fare 38 = .ok (.aload_n 0, 1) := by decide +kernel
theorem dX9_fare_39 : decode cX9_fare 39 = .ok (.getfield 30, 3) := by decide +kernel
theorem dX9_fare_42 : decode cX9_fare 42 = .ok (.iload_n 1, 1) := by decide +kernel
theorem dX9_fare_43 : decode cX9_fare 43 = .ok (.iload_n 2, 1) := by decide +kernel
theorem dX9_fare_44 : decode cX9_fare 44 = .ok (.invokestatic 143, 3) := by decide +kernel
theorem dX9_fare_47 : decode cX9_fare 47 = .ok (.iload_n 3, 1) := by decide +kernel
theorem dX9_fare_48 : decode cX9_fare 48 = .ok (.iastore, 1) := by decide +kernel
theorem dX9_fare_49 : decode cX9_fare 49 = .ok (.aload_n 0, 1) := by decide +kernel
theorem dX9_fare_50 : decode cX9_fare 50 = .ok (.iconst 0, 1) := by decide +kernel
theorem dX9_fare_51 : decode cX9_fare 51 = .ok (.invokevirtual 120, 3) := by decide +kernel
theorem dX9_fare_54 : decode cX9_fare 54 = .ok (.ireturn, 1) := by decide +kernel
theorem dX9_fares_0 : decode cX9_fares 0 = .ok (.aload_n 0, 1) := by decide +kernel
theorem dX9_fares_1 : decode cX9_fares 1 = .ok (.iload_n 1, 1) := by decide +kernel
theorem dX9_fares_2 : decode cX9_fares 2 = .ok (.invokevirtual 146, 3) := by decide +kernel
theorem dX9_fares_5 : decode cX9_fares 5 = .ok (.ifCond .ne 9, 3) := by decide +kernel
theorem dX9_fares_8 : decode cX9_fares 8 = .ok (.aload_n 0, 1) := by decide +kernel
theorem dX9_fares_9 : decode cX9_fares 9 = .ok (.iconst 1, 1) := by decide +kernel
theorem dX9_fares_10 : decode cX9_fares 10 = .ok (.invokevirtual 139, 3) := by decide +kernel
theorem dX9_fares_13 : decode cX9_fares 13 = .ok (.ireturn, 1) := by decide +kernel
theorem dX9_fares_14 : decode cX9_fares 14 = .ok (.aload_n 0, 1) := by decide +kernel
theorem dX9_fares_15 : decode cX9_fares 15 = .ok (.iconst 0, 1) := by decide +kernel
theorem dX9_fares_16 : decode cX9_fares 16 = .ok (.putfield 109, 3) := by decide +kernel
theorem dX9_fares_19 : decode cX9_fares 19 = .ok (.aload_n 0, 1) := by decide +kernel
theorem dX9_fares_20 : decode cX9_fares 20 = .ok (.iload_n 1, 1) := by decide +kernel
theorem dX9_fares_21 : decode cX9_fares 21 = .ok (.invokevirtual 218, 3) := by decide +kernel
theorem dX9_fares_24 : decode cX9_fares 24 = .ok (.lstore_n 2, 1) := by decide +kernel
theorem dX9_fares_25 : decode cX9_fares 25 = .ok (.iconst 0, 1) := by decide +kernel
theorem dX9_fares_26 : decode cX9_fares 26 = .ok (.istore 4, 2) := by decide +kernel
theorem dX9_fares_28 : decode cX9_fares 28 = .ok (.iconst 0, 1) := by decide +kernel
theorem dX9_fares_29 : decode cX9_fares 29 = .ok (.istore 5, 2) := by decide +kernel
theorem dX9_fares_31 : decode cX9_fares 31 = .ok (.iload 5, 2) := by decide +kernel
theorem dX9_fares_33 : decode cX9_fares 33 = .ok (.aload_n 0, 1) := by decide +kernel
theorem dX9_fares_34 : decode cX9_fares 34 = .ok (.getfield 133, 3) := by decide +kernel
theorem dX9_fares_37 : decode cX9_fares 37 = .ok (.if_icmp .ge 41, 3) := by decide +kernel
theorem dX9_fares_40 : decode cX9_fares 40 = .ok (.iload 4, 2) := by decide +kernel
theorem dX9_fares_42 : decode cX9_fares 42 = .ok (.aload_n 0, 1) := by decide +kernel
theorem dX9_fares_43 : decode cX9_fares 43 = .ok (.getfield 75, 3) := by decide +kernel
theorem dX9_fares_46 : decode cX9_fares 46 = .ok (.iload 5, 2) := by decide +kernel
theorem dX9_fares_48 : decode cX9_fares 48 = .ok (.iaload, 1) := by decide +kernel
theorem dX9_fares_49 : decode cX9_fares 49 = .ok (.bipush 6, 2) := by decide +kernel
theorem dX9_fares_51 : decode cX9_fares 51 = .ok (.iadd, 1) := by decide +kernel
theorem dX9_fares_52 : decode cX9_fares 52 = .ok (.iconst 1, 1) := by decide +kernel
theorem dX9_fares_53 : decode cX9_fares 53 = .ok (.isub, 1) := by decide +kernel
theorem dX9_fares_54 : decode cX9_fares 54 = .ok (.bipush 6, 2) := by decide +kernel
theorem dX9_fares_56 : decode cX9_fares 56 = .ok (.idiv, 1) := by decide +kernel
theorem dX9_fares_57 : decode cX9_fares 57 = .ok (.aload_n 0, 1) := by decide +kernel
theorem dX9_fares_58 : decode cX9_fares 58 = .ok (.getfield 30, 3) := by decide +kernel
theorem dX9_fares_61 : decode cX9_fares 61 = .ok (.iload_n 1, 1) := by decide +kernel
theorem dX9_fares_62 : decode cX9_fares 62 = .ok (.iload 5, 2) := by decide +kernel
theorem dX9_fares_64 : decode cX9_fares 64 = .ok (.invokestatic 143, 3) := by decide +kernel
theorem dX9_fares_67 : decode cX9_fares 67 = .ok (.iaload, 1) := by decide +kernel
theorem dX9_fares_68 : decode cX9_fares 68 = .ok (.imul, 1) := by decide +kernel
theorem dX9_fares_69 : decode cX9_fares 69 = .ok (.iadd, 1) := by decide +kernel
theorem dX9_fares_70 : decode cX9_fares 70 = .ok (.istore 4, 2) := by decide +kernel
theorem dX9_fares_72 : decode cX9_fares 72 = .ok (.iinc 5 1, 3) := by decide +kernel
theorem dX9_fares_75 : decode cX9_fares 75 = .ok (.goto (-44), 3) := by decide +kernel
theorem dX9_fares_78 : decode cX9_fares 78 = .ok (.iload 4, 2) := by decide +kernel
theorem dX9_fares_80 : decode cX9_fares 80 = .ok (.ireturn, 1) := by decide +kernel
theorem dX9_fly_0 : decode cX9_fly 0 = .ok (.aload_n 0, 1) := by decide +kernel
theorem dX9_fly_1 : decode cX9_fly 1 = .ok (.iload_n 1, 1) := by decide +kernel
theorem dX9_fly_2 : decode cX9_fly 2 = .ok (.invokevirtual 149, 3) := by decide +kernel
theorem dX9_fly_5 : decode cX9_fly 5 = .ok (.ifCond .eq 18, 3) := by decide +kernel
theorem dX9_fly_8 : decode cX9_fly 8 = .ok (.aload_n 0, 1) := by decide +kernel
theorem dX9_fly_9 : decode cX9_fly 9 = .ok (.iload_n 2, 1) := by decide +kernel
theorem dX9_fly_10 : decode cX9_fly 10 = .ok (.invokevirtual 237, 3) := by decide +kernel
theorem dX9_fly_13 : decode cX9_fly 13 = .ok (.ifCond .eq 10, 3) := by decide +kernel
theorem dX9_fly_16 : decode cX9_fly 16 = .ok (.iload_n 3, 1) := by decide +kernel
theorem dX9_fly_17 : decode cX9_fly 17 = .ok (.invokestatic 226, 3) := by decide +kernel
theorem dX9_fly_20 : decode cX9_fly 20 = .ok (.ifCond .ne 9, 3) := by decide +kernel
theorem dX9_fly_23 : decode cX9_fly 23 = .ok (.aload_n 0, 1) := by decide +kernel
theorem dX9_fly_24 : decode cX9_fly 24 = .ok (.iconst 1, 1) := by decide +kernel
theorem dX9_fly_25 : decode cX9_fly 25 = .ok (.invokevirtual 120, 3) := by decide +kernel
theorem dX9_fly_28 : decode cX9_fly 28 = .ok (.ireturn, 1) := by decide +kernel
theorem dX9_fly_29 : decode cX9_fly 29 = .ok (.iload_n 3, 1) := by decide +kernel
theorem dX9_fly_30 : decode cX9_fly 30 = .ok (.aload_n 0, 1) := by decide +kernel
theorem dX9_fly_31 : decode cX9_fly 31 = .ok (.getfield 229, 3) := by decide +kernel
theorem dX9_fly_34 : decode cX9_fly 34 = .ok (.if_icmp .ge 9, 3) := by decide +kernel
theorem dX9_fly_37 : decode cX9_fly 37 = .ok (.aload_n 0, 1) := by decide +kernel
theorem dX9_fly_38 : decode cX9_fly 38 = .ok (.iconst 2, 1) := by decide +kernel
theorem dX9_fly_39 : decode cX9_fly 39 = .ok (.invokevirtual 120, 3) := by decide +kernel
theorem dX9_fly_42 : decode cX9_fly 42 = .ok (.ireturn, 1) := by decide +kernel
theorem dX9_fly_43 : decode cX9_fly 43 = .ok (.aload_n 0, 1) := by decide +kernel
theorem dX9_fly_44 : decode cX9_fly 44 = .ok (.getfield 45, 3) := by decide +kernel
theorem dX9_fly_47 : decode cX9_fly 47 = .ok (.iload_n 1, 1) := by decide +kernel
theorem dX9_fly_48 : decode cX9_fly 48 = .ok (.iaload, 1) := by decide +kernel
theorem dX9_fly_49 : decode cX9_fly 49 = .ok (.ifCond .ne 28, 3) := by decide +kernel
theorem dX9_fly_52 : decode cX9_fly 52 = .ok (.aload_n 0, 1) := by decide +kernel
theorem dX9_fly_53 : decode cX9_fly 53 = .ok (.getfield 48, 3) := by decide +kernel
theorem dX9_fly_56 : decode cX9_fly 56 = .ok (.iload_n 1, 1) := by decide +kernel
theorem dX9_fly_57 : decode cX9_fly 57 = .ok (.iaload, 1) := by decide +kernel
theorem dX9_fly_58 : decode cX9_fly 58 = .ok (.iload_n 3, 1) := by decide +kernel
theorem dX9_fly_59 : decode cX9_fly 59 = .ok (.if_icmp .gt 18, 3) := by decide +kernel
theorem dX9_fly_62 : decode cX9_fly 62 = .ok (.aload_n 0, 1) := by decide +kernel
theorem dX9_fly_63 : decode cX9_fly 63 = .ok (.getfield 42, 3) := by decide +kernel
theorem dX9_fly_66 : decode cX9_fly 66 = .ok (.iload_n 1, 1) := by decide +kernel
theorem dX9_fly_67 : decode cX9_fly 67 = .ok (.iaload, 1) := by decide +kernel
theorem dX9_fly_68 : decode cX9_fly 68 = .ok (.aload_n 0, 1) := by decide +kernel
theorem dX9_fly_69 : decode cX9_fly 69 = .ok (.getfield 39, 3) := by decide +kernel
theorem dX9_fly_72 : decode cX9_fly 72 = .ok (.iload_n 1, 1) := by decide +kernel
theorem dX9_fly_73 : decode cX9_fly 73 = .ok (.iaload, 1) := by decide +kernel
theorem dX9_fly_74 : decode cX9_fly 74 = .ok (.if_icmp .ne 10, 3) := by decide +kernel
theorem dX9_fly_77 : decode cX9_fly 77 = .ok (.aload_n 0, 1) := by decide +kernel
theorem dX9_fly_78 : decode cX9_fly 78 = .ok (.bipush 7, 2) := by decide +kernel
theorem dX9_fly_80 : decode cX9_fly 80 = .ok (.invokevirtual 120, 3) := by decide +kernel
theorem dX9_fly_83 : decode cX9_fly 83 = .ok (.ireturn, 1) := by decide +kernel
theorem dX9_fly_84 : decode cX9_fly 84 = .ok (.aload_n 0, 1) := by decide +kernel
theorem dX9_fly_85 : decode cX9_fly 85 = .ok (.getfield 24, 3) := by decide +kernel
theorem dX9_fly_88 : decode cX9_fly 88 = .ok (.aload_n 0, 1) := by decide +kernel
theorem dX9_fly_89 : decode cX9_fly 89 = .ok (.getfield 42, 3) := by decide +kernel
theorem dX9_fly_92 : decode cX9_fly 92 = .ok (.iload_n 1, 1) := by decide +kernel
theorem dX9_fly_93 : decode cX9_fly 93 = .ok (.iaload, 1) := by decide +kernel
theorem dX9_fly_94 : decode cX9_fly 94 = .ok (.aload_n 0, 1) := by decide +kernel
theorem dX9_fly_95 : decode cX9_fly 95 = .ok (.getfield 39, 3) := by decide +kernel
theorem dX9_fly_98 : decode cX9_fly 98 = .ok (.iload_n 1, 1) := by decide +kernel
theorem dX9_fly_99 : decode cX9_fly 99 = .ok (.iaload, 1) := by decide +kernel
theorem dX9_fly_100 : decode cX9_fly 100 = .ok (.invokestatic 143, 3) := by decide +kernel
theorem dX9_fly_103 : decode cX9_fly 103 = .ok (.iaload, 1) := by decide +kernel
theorem dX9_fly_104 : decode cX9_fly 104 = .ok (.iconst (-1), 1) := by decide +kernel
theorem dX9_fly_105 : decode cX9_fly 105 = .ok (.if_icmp .ne 10, 3) := by decide +kernel
theorem dX9_fly_108 : decode cX9_fly 108 = .ok (.aload_n 0, 1) := by decide +kernel
theorem dX9_fly_109 : decode cX9_fly 109 = .ok (.bipush 6, 2) := by decide +kernel
theorem dX9_fly_111 : decode cX9_fly 111 = .ok (.invokevirtual 120, 3) := by decide +kernel
theorem dX9_fly_114 : decode cX9_fly 114 = .ok (.ireturn, 1) := by decide +kernel
theorem dX9_fly_115 : decode cX9_fly 115 = .ok (.aload_n 0, 1) := by decide +kernel
theorem dX9_fly_116 : decode cX9_fly 116 = .ok (.getfield 93, 3) := by decide +kernel
theorem dX9_fly_119 : decode cX9_fly 119 = .ok (.iload_n 2, 1) := by decide +kernel
theorem dX9_fly_120 : decode cX9_fly 120 = .ok (.aload_n 0, 1) := by decide +kernel
theorem dX9_fly_121 : decode cX9_fly 121 = .ok (.getfield 42, 3) := by decide +kernel
theorem dX9_fly_124 : decode cX9_fly 124 = .ok (.iload_n 1, 1) := by decide +kernel
theorem dX9_fly_125 : decode cX9_fly 125 = .ok (.iaload, 1) := by decide +kernel
theorem dX9_fly_126 : decode cX9_fly 126 = .ok (.invokestatic 234, 3) := by decide +kernel
theorem dX9_fly_129 : decode cX9_fly 129 = .ok (.iaload, 1) := by decide +kernel
theorem dX9_fly_130 : decode cX9_fly 130 = .ok (.iconst (-1), 1) := by decide +kernel
theorem dX9_fly_131 : decode cX9_fly 131 = .ok (.if_icmp .ne 10, 3) := by decide +kernel
theorem dX9_fly_134 : decode cX9_fly 134 = .ok (.aload_n 0, 1) := by decide +kernel
theorem dX9_fly_135 : decode cX9_fly 135 = .ok (.bipush 7, 2) := by decide +kernel
theorem dX9_fly_137 : decode cX9_fly 137 = .ok (.invokevirtual 120, 3) := by decide +kernel
theorem dX9_fly_140 : decode cX9_fly 140 = .ok (.ireturn, 1) := by decide +kernel
theorem dX9_fly_141 : decode cX9_fly 141 = .ok (.aload_n 0, 1) := by decide +kernel
theorem dX9_fly_142 : decode cX9_fly 142 = .ok (.iload_n 3, 1) := by decide +kernel
theorem dX9_fly_143 : decode cX9_fly 143 = .ok (.putfield 229, 3) := by decide +kernel
theorem dX9_fly_146 : decode cX9_fly 146 = .ok (.aload_n 0, 1) := by decide +kernel
theorem dX9_fly_147 : decode cX9_fly 147 = .ok (.getfield 45, 3) := by decide +kernel
theorem dX9_fly_150 : decode cX9_fly 150 = .ok (.iload_n 1, 1) := by decide +kernel
theorem dX9_fly_151 : decode cX9_fly 151 = .ok (.iconst 1, 1) := by decide +kernel
theorem dX9_fly_152 : decode cX9_fly 152 = .ok (.iastore, 1) := by decide +kernel
theorem dX9_fly_153 : decode cX9_fly 153 = .ok (.aload_n 0, 1) := by decide +kernel
theorem dX9_fly_154 : decode cX9_fly 154 = .ok (.getfield 51, 3) := by decide +kernel
theorem dX9_fly_157 : decode cX9_fly 157 = .ok (.iload_n 1, 1) := by decide +kernel
theorem dX9_fly_158 : decode cX9_fly 158 = .ok (.iload_n 2, 1) := by decide +kernel
theorem dX9_fly_159 : decode cX9_fly 159 = .ok (.iastore, 1) := by decide +kernel
theorem dX9_fly_160 : decode cX9_fly 160 = .ok (.aload_n 0, 1) := by decide +kernel
theorem dX9_fly_161 : decode cX9_fly 161 = .ok (.getfield 81, 3) := by decide +kernel
theorem dX9_fly_164 : decode cX9_fly 164 = .ok (.iload_n 2, 1) := by decide +kernel
theorem dX9_fly_165 : decode cX9_fly 165 = .ok (.dup2, 1) := by decide +kernel
theorem dX9_fly_166 : decode cX9_fly 166 = .ok (.iaload, 1) := by decide +kernel
theorem dX9_fly_167 : decode cX9_fly 167 = .ok (.iconst 1, 1) := by decide +kernel
theorem dX9_fly_168 : decode cX9_fly 168 = .ok (.iadd, 1) := by decide +kernel
theorem dX9_fly_169 : decode cX9_fly 169 = .ok (.iastore, 1) := by decide +kernel
theorem dX9_fly_170 : decode cX9_fly 170 = .ok (.aload_n 0, 1) := by decide +kernel
theorem dX9_fly_171 : decode cX9_fly 171 = .ok (.iconst 0, 1) := by decide +kernel
theorem dX9_fly_172 : decode cX9_fly 172 = .ok (.invokevirtual 120, 3) := by decide +kernel
theorem dX9_fly_175 : decode cX9_fly 175 = .ok (.ireturn, 1) := by decide +kernel
theorem dX9_is_0 : decode cX9_is 0 = .ok (.aload_n 0, 1) := by decide +kernel
theorem dX9_is_1 : decode cX9_is 1 = .ok (.iload_n 1, 1) := by decide +kernel
theorem dX9_is_2 : decode cX9_is 2 = .ok (.putfield 109, 3) := by decide +kernel
theorem dX9_is_5 : decode cX9_is 5 = .ok (.iload_n 1, 1) := by decide +kernel
theorem dX9_is_6 : decode cX9_is 6 = .ok (.ifCond .ne 7, 3) := by decide +kernel
theorem dX9_is_9 : decode cX9_is 9 = .ok (.iconst 1, 1) := by decide +kernel
theorem dX9_is_10 : decode cX9_is 10 = .ok (.goto 4, 3) := by decide +kernel
theorem dX9_is_13 : decode cX9_is 13 = .ok (.iconst 0, 1) := by decide +kernel
theorem dX9_is_14 : decode cX9_is 14 = .ok (.ireturn, 1) := by decide +kernel
theorem dX9_isAhead_0 : decode cX9_isAhead 0 = .ok (.aload_n 0, 1) := by decide +kernel
theorem dX9_isAhead_1 : decode cX9_isAhead 1 = .ok (.getfield 170, 3) := by decide +kernel
theorem dX9_isAhead_4 : decode cX9_isAhead 4 = .ok (.ifCond .ne 5, 3) := by decide +kernel
theorem dX9_isAhead_7 : decode cX9_isAhead 7 = .ok (.iconst 1, 1) := by decide +kernel
theorem dX9_isAhead_8 : decode cX9_isAhead 8 = .ok (.ireturn, 1) := by decide +kernel
theorem dX9_isAhead_9 : decode cX9_isAhead 9 = .ok (.iload_n 1, 1) := by decide +kernel
theorem dX9_isAhead_10 : decode cX9_isAhead 10 = .ok (.aload_n 0, 1) := by decide +kernel
theorem dX9_isAhead_11 : decode cX9_isAhead 11 = .ok (.getfield 173, 3) := by decide +kernel
theorem dX9_isAhead_14 : decode cX9_isAhead 14 = .ok (.if_icmp .eq 17, 3) := by decide +kernel
theorem dX9_isAhead_17 : decode cX9_isAhead 17 = .ok (.iload_n 1, 1) := by decide +kernel
theorem dX9_isAhead_18 : decode cX9_isAhead 18 = .ok (.aload_n 0, 1) := by decide +kernel
theorem dX9_isAhead_19 : decode cX9_isAhead 19 = .ok (.getfield 173, 3) := by decide +kernel
theorem dX9_isAhead_22 : decode cX9_isAhead 22 = .ok (.if_icmp .ge 7, 3) := by decide +kernel
theorem dX9_isAhead_25 : decode cX9_isAhead 25 = .ok (.iconst 1, 1) := by decide +kernel
theorem dX9_isAhead_26 : decode cX9_isAhead 26 = .ok (.goto 4, 3) := by decide +kernel
theorem dX9_isAhead_29 : decode cX9_isAhead 29 = .ok (.iconst 0, 1) := by decide +kernel
theorem dX9_isAhead_30 : decode cX9_isAhead 30 = .ok (.ireturn, 1) := by decide +kernel
theorem dX9_isAhead_31 : decode cX9_isAhead 31 = .ok (.iload_n 2, 1) := by decide +kernel
theorem dX9_isAhead_32 : decode cX9_isAhead 32 = .ok (.aload_n 0, 1) := by decide +kernel
theorem dX9_isAhead_33 : decode cX9_isAhead 33 = .ok (.getfield 176, 3) := by decide +kernel
theorem dX9_isAhead_36 : decode cX9_isAhead 36 = .ok (.if_icmp .eq 17, 3) := by decide +kernel
theorem dX9_isAhead_39 : decode cX9_isAhead 39 = .ok (.iload_n 2, 1) := by decide +kernel
theorem dX9_isAhead_40 : decode cX9_isAhead 40 = .ok (.aload_n 0, 1) := by decide +kernel
theorem dX9_isAhead_41 : decode cX9_isAhead 41 = .ok (.getfield 176, 3) := by decide +kernel
theorem dX9_isAhead_44 : decode cX9_isAhead 44 = .ok (.if_icmp .ge 7, 3) := by decide +kernel
theorem dX9_isAhead_47 : decode cX9_isAhead 47 = .ok (.iconst 1, 1) := by decide +kernel
theorem dX9_isAhead_48 : decode cX9_isAhead 48 = .ok (.goto 4, 3) := by decide +kernel
theorem dX9_isAhead_51 : decode cX9_isAhead 51 = .ok (.iconst 0, 1) := by decide +kernel
theorem dX9_isAhead_52 : decode cX9_isAhead 52 = .ok (.ireturn, 1) := by decide +kernel
theorem dX9_isAhead_53 : decode cX9_isAhead 53 = .ok (.iconst 1, 1) := by decide +kernel
theorem dX9_isAhead_54 : decode cX9_isAhead 54 = .ok (.istore_n 3, 1) := by decide +kernel
theorem dX9_isAhead_55 : decode cX9_isAhead 55 = .ok (.iload_n 3, 1) := by decide +kernel
theorem dX9_isAhead_56 : decode cX9_isAhead 56 = .ok (.iconst 3, 1) := by decide +kernel
theorem dX9_isAhead_57 : decode cX9_isAhead 57 = .ok (.if_icmp .gt 101, 3) := by decide +kernel
theorem dX9_isAhead_60 : decode cX9_isAhead 60 = .ok (.iload_n 3, 1) := by decide +kernel
theorem dX9_isAhead_61 : decode cX9_isAhead 61 = .ok (.aload_n 0, 1) := by decide +kernel
theorem dX9_isAhead_62 : decode cX9_isAhead 62 = .ok (.getfield 179, 3) := by decide +kernel
theorem dX9_isAhead_65 : decode cX9_isAhead 65 = .ok (.if_icmp .gt 7, 3) := by decide +kernel
theorem dX9_isAhead_68 : decode cX9_isAhead 68 = .ok (.iconst 1, 1) := by decide +kernel
theorem dX9_isAhead_69 : decode cX9_isAhead 69 = .ok (.goto 4, 3) := by decide +kernel
theorem dX9_isAhead_72 : decode cX9_isAhead 72 = .ok (.iconst 0, 1) := by decide +kernel
theorem dX9_isAhead_73 : decode cX9_isAhead 73 = .ok (.istore 4, 2) := by decide +kernel
theorem dX9_isAhead_75 : decode cX9_isAhead 75 = .ok (.iload_n 3, 1) := by decide +kernel
theorem dX9_isAhead_76 : decode cX9_isAhead 76 = .ok (.aload_n 0, 1) := by decide +kernel
theorem dX9_isAhead_77 : decode cX9_isAhead 77 = .ok (.getfield 170, 3) := by decide +kernel
theorem dX9_isAhead_80 : decode cX9_isAhead 80 = .ok (.if_icmp .gt 7, 3) := by decide +kernel
theorem dX9_isAhead_83 : decode cX9_isAhead 83 = .ok (.iconst 1, 1) := by decide +kernel
theorem dX9_isAhead_84 : decode cX9_isAhead 84 = .ok (.goto 4, 3) := by decide +kernel
theorem dX9_isAhead_87 : decode cX9_isAhead 87 = .ok (.iconst 0, 1) := by decide +kernel
theorem dX9_isAhead_88 : decode cX9_isAhead 88 = .ok (.istore 5, 2) := by decide +kernel
theorem dX9_isAhead_90 : decode cX9_isAhead 90 = .ok (.iload 4, 2) := by decide +kernel
theorem dX9_isAhead_92 : decode cX9_isAhead 92 = .ok (.iload 5, 2) := by decide +kernel
theorem dX9_isAhead_94 : decode cX9_isAhead 94 = .ok (.if_icmp .eq 14, 3) := by decide +kernel
theorem dX9_isAhead_97 : decode cX9_isAhead 97 = .ok (.iload 4, 2) := by decide +kernel
theorem dX9_isAhead_99 : decode cX9_isAhead 99 = .ok (.ifCond .ne 7, 3) := by decide +kernel
theorem dX9_isAhead_102 : decode cX9_isAhead 102 = .ok (.iconst 1, 1) := by decide +kernel
theorem dX9_isAhead_103 : decode cX9_isAhead 103 = .ok (.goto 4, 3) := by decide +kernel
theorem dX9_isAhead_106 : decode cX9_isAhead 106 = .ok (.iconst 0, 1) := by decide +kernel
theorem dX9_isAhead_107 : decode cX9_isAhead 107 = .ok (.ireturn, 1) := by decide +kernel
theorem dX9_isAhead_108 : decode cX9_isAhead 108 = .ok (.iload 4, 2) := by decide +kernel
theorem dX9_isAhead_110 : decode cX9_isAhead 110 = .ok (.ifCond .ne 6, 3) := by decide +kernel
theorem dX9_isAhead_113 : decode cX9_isAhead 113 = .ok (.goto 45, 3) := by decide +kernel
theorem dX9_isAhead_116 : decode cX9_isAhead 116 = .ok (.aload_n 0, 1) := by decide +kernel
theorem dX9_isAhead_117 : decode cX9_isAhead 117 = .ok (.getfield 54, 3) := by decide +kernel
theorem dX9_isAhead_120 : decode cX9_isAhead 120 = .ok (.iload_n 3, 1) := by decide +kernel
theorem dX9_isAhead_121 : decode cX9_isAhead 121 = .ok (.iaload, 1) := by decide +kernel
theorem dX9_isAhead_122 : decode cX9_isAhead 122 = .ok (.aload_n 0, 1) := by decide +kernel
theorem dX9_isAhead_123 : decode cX9_isAhead 123 = .ok (.getfield 60, 3) := by decide +kernel
theorem dX9_isAhead_126 : decode cX9_isAhead 126 = .ok (.iload_n 3, 1) := by decide +kernel
theorem dX9_isAhead_127 : decode cX9_isAhead 127 = .ok (.iaload, 1) := by decide +kernel
theorem dX9_isAhead_128 : decode cX9_isAhead 128 = .ok (.if_icmp .eq 24, 3) := by decide +kernel
theorem dX9_isAhead_131 : decode cX9_isAhead 131 = .ok (.aload_n 0, 1) := by decide +kernel
theorem dX9_isAhead_132 : decode cX9_isAhead 132 = .ok (.getfield 54, 3) := by decide +kernel
theorem dX9_isAhead_135 : decode cX9_isAhead 135 = .ok (.iload_n 3, 1) := by decide +kernel
theorem dX9_isAhead_136 : decode cX9_isAhead 136 = .ok (.iaload, 1) := by decide +kernel
theorem dX9_isAhead_137 : decode cX9_isAhead 137 = .ok (.aload_n 0, 1) := by decide +kernel
theorem dX9_isAhead_138 : decode cX9_isAhead 138 = .ok (.getfield 60, 3) := by decide +kernel
theorem dX9_isAhead_141 : decode cX9_isAhead 141 = .ok (.iload_n 3, 1) := by decide +kernel
theorem dX9_isAhead_142 : decode cX9_isAhead 142 = .ok (.iaload, 1) := by decide +kernel
theorem dX9_isAhead_143 : decode cX9_isAhead 143 = .ok (.if_icmp .ge 7, 3) := by decide +kernel
theorem dX9_isAhead_146 : decode cX9_isAhead 146 = .ok (.iconst 1, 1) := by decide +kernel
theorem dX9_isAhead_147 : decode cX9_isAhead 147 = .ok (.goto 4, 3) := by decide +kernel
theorem dX9_isAhead_150 : decode cX9_isAhead 150 = .ok (.iconst 0, 1) := by decide +kernel
theorem dX9_isAhead_151 : decode cX9_isAhead 151 = .ok (.ireturn, 1) := by decide +kernel
theorem dX9_isAhead_152 : decode cX9_isAhead 152 = .ok (.iinc 3 1, 3) := by decide +kernel
theorem dX9_isAhead_155 : decode cX9_isAhead 155 = .ok (.goto (-100), 3) := by decide +kernel
theorem dX9_isAhead_158 : decode cX9_isAhead 158 = .ok (.iconst 0, 1) := by decide +kernel
theorem dX9_isAhead_159 : decode cX9_isAhead 159 = .ok (.istore_n 3, 1) := by decide +kernel
theorem dX9_isAhead_160 : decode cX9_isAhead 160 = .ok (.iload_n 3, 1) := by decide +kernel
theorem dX9_isAhead_161 : decode cX9_isAhead 161 = .ok (.aload_n 0, 1) := by decide +kernel
theorem dX9_isAhead_162 : decode cX9_isAhead 162 = .ok (.getfield 179, 3) := by decide +kernel
theorem dX9_isAhead_165 : decode cX9_isAhead 165 = .ok (.if_icmp .ge 45, 3) := by decide +kernel
theorem dX9_isAhead_168 : decode cX9_isAhead 168 = .ok (.aload_n 0, 1) := by decide +kernel
theorem dX9_isAhead_169 : decode cX9_isAhead 169 = .ok (.getfield 57, 3) := by decide +kernel
theorem dX9_isAhead_172 : decode cX9_isAhead 172 = .ok (.iload_n 3, 1) := by decide +kernel
theorem dX9_isAhead_173 : decode cX9_isAhead 173 = .ok (.iaload, 1) := by decide +kernel
theorem dX9_isAhead_174 : decode cX9_isAhead 174 = .ok (.aload_n 0, 1) := by decide +kernel
theorem dX9_isAhead_175 : decode cX9_isAhead 175 = .ok (.getfield 63, 3) := by decide +kernel
theorem dX9_isAhead_178 : decode cX9_isAhead 178 = .ok (.iload_n 3, 1) := by decide +kernel
theorem dX9_isAhead_179 : decode cX9_isAhead 179 = .ok (.iaload, 1) := by decide +kernel
theorem dX9_isAhead_180 : decode cX9_isAhead 180 = .ok (.if_icmp .eq 24, 3) := by decide +kernel
theorem dX9_isAhead_183 : decode cX9_isAhead 183 = .ok (.aload_n 0, 1) := by decide +kernel
theorem dX9_isAhead_184 : decode cX9_isAhead 184 = .ok (.getfield 57, 3) := by decide +kernel
theorem dX9_isAhead_187 : decode cX9_isAhead 187 = .ok (.iload_n 3, 1) := by decide +kernel
theorem dX9_isAhead_188 : decode cX9_isAhead 188 = .ok (.iaload, 1) := by decide +kernel
theorem dX9_isAhead_189 : decode cX9_isAhead 189 = .ok (.aload_n 0, 1) := by decide +kernel
theorem dX9_isAhead_190 : decode cX9_isAhead 190 = .ok (.getfield 63, 3) := by decide +kernel
theorem dX9_isAhead_193 : decode cX9_isAhead 193 = .ok (.iload_n 3, 1) := by decide +kernel
theorem dX9_isAhead_194 : decode cX9_isAhead 194 = .ok (.iaload, 1) := by decide +kernel
theorem dX9_isAhead_195 : decode cX9_isAhead 195 = .ok (.if_icmp .ge 7, 3) := by decide +kernel
theorem dX9_isAhead_198 : decode cX9_isAhead 198 = .ok (.iconst 1, 1) := by decide +kernel
theorem dX9_isAhead_199 : decode cX9_isAhead 199 = .ok (.goto 4, 3) := by decide +kernel
theorem dX9_isAhead_202 : decode cX9_isAhead 202 = .ok (.iconst 0, 1) := by decide +kernel
theorem dX9_isAhead_203 : decode cX9_isAhead 203 = .ok (.ireturn, 1) := by decide +kernel
theorem dX9_isAhead_204 : decode cX9_isAhead 204 = .ok (.iinc 3 1, 3) := by decide +kernel
theorem dX9_isAhead_207 : decode cX9_isAhead 207 = .ok (.goto (-47), 3) := by decide +kernel
theorem dX9_isAhead_210 : decode cX9_isAhead 210 = .ok (.iconst 0, 1) := by decide +kernel
theorem dX9_isAhead_211 : decode cX9_isAhead 211 = .ok (.ireturn, 1) := by decide +kernel
theorem dX9_isBird_0 : decode cX9_isBird 0 = .ok (.iload_n 1, 1) := by decide +kernel
theorem dX9_isBird_1 : decode cX9_isBird 1 = .ok (.ifCond .lt 15, 3) := by decide +kernel
theorem dX9_isBird_4 : decode cX9_isBird 4 = .ok (.iload_n 1, 1) := by decide +kernel
theorem dX9_isBird_5 : decode cX9_isBird 5 = .ok (.aload_n 0, 1) := by decide +kernel
theorem dX9_isBird_6 : decode cX9_isBird 6 = .ok (.getfield 136, 3) := by decide +kernel
theorem dX9_isBird_9 : decode cX9_isBird 9 = .ok (.if_icmp .ge 7, 3) := by decide +kernel
theorem dX9_isBird_12 : decode cX9_isBird 12 = .ok (.iconst 1, 1) := by decide +kernel
theorem dX9_isBird_13 : decode cX9_isBird 13 = .ok (.goto 4, 3) := by decide +kernel
theorem dX9_isBird_16 : decode cX9_isBird 16 = .ok (.iconst 0, 1) := by decide +kernel
theorem dX9_isBird_17 : decode cX9_isBird 17 = .ok (.ireturn, 1) := by decide +kernel
theorem dX9_isLetter_0 : decode cX9_isLetter 0 = .ok (.iload_n 1, 1) := by decide +kernel
theorem dX9_isLetter_1 : decode cX9_isLetter 1 = .ok (.ifCond .lt 15, 3) := by decide +kernel
theorem dX9_isLetter_4 : decode cX9_isLetter 4 = .ok (.iload_n 1, 1) := by decide +kernel
theorem dX9_isLetter_5 : decode cX9_isLetter 5 = .ok (.aload_n 0, 1) := by decide +kernel
theorem dX9_isLetter_6 : decode cX9_isLetter 6 = .ok (.getfield 222, 3) := by decide +kernel
theorem dX9_isLetter_9 : decode cX9_isLetter 9 = .ok (.if_icmp .ge 7, 3) := by decide +kernel
theorem dX9_isLetter_12 : decode cX9_isLetter 12 = .ok (.iconst 1, 1) := by decide +kernel
theorem dX9_isLetter_13 : decode cX9_isLetter 13 = .ok (.goto 4, 3) := by decide +kernel
theorem dX9_isLetter_16 : decode cX9_isLetter 16 = .ok (.iconst 0, 1) := by decide +kernel
theorem dX9_isLetter_17 : decode cX9_isLetter 17 = .ok (.ireturn, 1) := by decide +kernel
theorem dX9_isMinute_0 : decode cX9_isMinute 0 = .ok (.iload_n 0, 1) := by decide +kernel
theorem dX9_isMinute_1 : decode cX9_isMinute 1 = .ok (.ifCond .lt 13, 3) := by decide +kernel
theorem dX9_isMinute_4 : decode cX9_isMinute 4 = .ok (.iload_n 0, 1) := by decide +kernel
theorem dX9_isMinute_5 : decode cX9_isMinute 5 = .ok (.ldc 225, 2) := by decide +kernel
theorem dX9_isMinute_7 : decode cX9_isMinute 7 = .ok (.if_icmp .gt 7, 3) := by decide +kernel
theorem dX9_isMinute_10 : decode cX9_isMinute 10 = .ok (.iconst 1, 1) := by decide +kernel
theorem dX9_isMinute_11 : decode cX9_isMinute 11 = .ok (.goto 4, 3) := by decide +kernel
theorem dX9_isMinute_14 : decode cX9_isMinute 14 = .ok (.iconst 0, 1) := by decide +kernel
theorem dX9_isMinute_15 : decode cX9_isMinute 15 = .ok (.ireturn, 1) := by decide +kernel
theorem dX9_isShare_0 : decode cX9_isShare 0 = .ok (.iload_n 1, 1) := by decide +kernel
theorem dX9_isShare_1 : decode cX9_isShare 1 = .ok (.iconst 1, 1) := by decide +kernel
theorem dX9_isShare_2 : decode cX9_isShare 2 = .ok (.if_icmp .lt 23, 3) := by decide +kernel
theorem dX9_isShare_5 : decode cX9_isShare 5 = .ok (.iload_n 1, 1) := by decide +kernel
theorem dX9_isShare_6 : decode cX9_isShare 6 = .ok (.sipush 1000, 3) := by decide +kernel
theorem dX9_isShare_9 : decode cX9_isShare 9 = .ok (.if_icmp .gt 16, 3) := by decide +kernel
theorem dX9_isShare_12 : decode cX9_isShare 12 = .ok (.iload_n 0, 1) := by decide +kernel
theorem dX9_isShare_13 : decode cX9_isShare 13 = .ok (.ifCond .lt 12, 3) := by decide +kernel
theorem dX9_isShare_16 : decode cX9_isShare 16 = .ok (.iload_n 0, 1) := by decide +kernel
theorem dX9_isShare_17 : decode cX9_isShare 17 = .ok (.iload_n 1, 1) := by decide +kernel
theorem dX9_isShare_18 : decode cX9_isShare 18 = .ok (.if_icmp .gt 7, 3) := by decide +kernel
theorem dX9_isShare_21 : decode cX9_isShare 21 = .ok (.iconst 1, 1) := by decide +kernel
theorem dX9_isShare_22 : decode cX9_isShare 22 = .ok (.goto 4, 3) := by decide +kernel
theorem dX9_isShare_25 : decode cX9_isShare 25 = .ok (.iconst 0, 1) := by decide +kernel
theorem dX9_isShare_26 : decode cX9_isShare 26 = .ok (.ireturn, 1) := by decide +kernel
theorem dX9_isTown_0 : decode cX9_isTown 0 = .ok (.iload_n 1, 1) := by decide +kernel
theorem dX9_isTown_1 : decode cX9_isTown 1 = .ok (.ifCond .lt 15, 3) := by decide +kernel
theorem dX9_isTown_4 : decode cX9_isTown 4 = .ok (.iload_n 1, 1) := by decide +kernel
theorem dX9_isTown_5 : decode cX9_isTown 5 = .ok (.aload_n 0, 1) := by decide +kernel
theorem dX9_isTown_6 : decode cX9_isTown 6 = .ok (.getfield 133, 3) := by decide +kernel
theorem dX9_isTown_9 : decode cX9_isTown 9 = .ok (.if_icmp .ge 7, 3) := by decide +kernel
theorem dX9_isTown_12 : decode cX9_isTown 12 = .ok (.iconst 1, 1) := by decide +kernel
theorem dX9_isTown_13 : decode cX9_isTown 13 = .ok (.goto 4, 3) := by decide +kernel
theorem dX9_isTown_16 : decode cX9_isTown 16 = .ok (.iconst 0, 1) := by decide +kernel
theorem dX9_isTown_17 : decode cX9_isTown 17 = .ok (.ireturn, 1) := by decide +kernel
theorem dX9_isTray_0 : decode cX9_isTray 0 = .ok (.iload_n 0, 1) := by decide +kernel
theorem dX9_isTray_1 : decode cX9_isTray 1 = .ok (.ifCond .lt 12, 3) := by decide +kernel
theorem dX9_isTray_4 : decode cX9_isTray 4 = .ok (.iload_n 0, 1) := by decide +kernel
theorem dX9_isTray_5 : decode cX9_isTray 5 = .ok (.iconst 4, 1) := by decide +kernel
theorem dX9_isTray_6 : decode cX9_isTray 6 = .ok (.if_icmp .ge 7, 3) := by decide +kernel
theorem dX9_isTray_9 : decode cX9_isTray 9 = .ok (.iconst 1, 1) := by decide +kernel
theorem dX9_isTray_10 : decode cX9_isTray 10 = .ok (.goto 4, 3) := by decide +kernel
theorem dX9_isTray_13 : decode cX9_isTray 13 = .ok (.iconst 0, 1) := by decide +kernel
theorem dX9_isTray_14 : decode cX9_isTray 14 = .ok (.ireturn, 1) := by decide +kernel
theorem dX9_joined_0 : decode cX9_joined 0 = .ok (.aload_n 0, 1) := by decide +kernel
theorem dX9_joined_1 : decode cX9_joined 1 = .ok (.iload_n 1, 1) := by decide +kernel
theorem dX9_joined_2 : decode cX9_joined 2 = .ok (.invokevirtual 237, 3) := by decide +kernel
theorem dX9_joined_5 : decode cX9_joined 5 = .ok (.ifCond .eq 11, 3) := by decide +kernel
theorem dX9_joined_8 : decode cX9_joined 8 = .ok (.aload_n 0, 1) := by decide +kernel
theorem dX9_joined_9 : decode cX9_joined 9 = .ok (.iload_n 2, 1) := by decide +kernel
theorem dX9_joined_10 : decode cX9_joined 10 = .ok (.invokevirtual 146, 3) := by decide +kernel
theorem dX9_joined_13 : decode cX9_joined 13 = .ok (.ifCond .ne 9, 3) := by decide +kernel
theorem dX9_joined_16 : decode cX9_joined 16 = .ok (.aload_n 0, 1) := by decide +kernel
theorem dX9_joined_17 : decode cX9_joined 17 = .ok (.iconst 1, 1) := by decide +kernel
theorem dX9_joined_18 : decode cX9_joined 18 = .ok (.invokevirtual 139, 3) := by decide +kernel
theorem dX9_joined_21 : decode cX9_joined 21 = .ok (.ireturn, 1) := by decide +kernel
theorem dX9_joined_22 : decode cX9_joined 22 = .ok (.iload_n 3, 1) := by decide +kernel
theorem dX9_joined_23 : decode cX9_joined 23 = .ok (.ifCond .lt 13, 3) := by decide +kernel
theorem dX9_joined_26 : decode cX9_joined 26 = .ok (.iload_n 3, 1) := by decide +kernel
theorem dX9_joined_27 : decode cX9_joined 27 = .ok (.aload_n 0, 1) := by decide +kernel
theorem dX9_joined_28 : decode cX9_joined 28 = .ok (.getfield 78, 3) := by decide +kernel
theorem dX9_joined_31 : decode cX9_joined 31 = .ok (.iload_n 1, 1) := by decide +kernel
theorem dX9_joined_32 : decode cX9_joined 32 = .ok (.iaload, 1) := by decide +kernel
theorem dX9_joined_33 : decode cX9_joined 33 = .ok (.if_icmp .lt 10, 3) := by decide +kernel
theorem dX9_joined_36 : decode cX9_joined 36 = .ok (.aload_n 0, 1) := by decide +kernel
theorem dX9_joined_37 : decode cX9_joined 37 = .ok (.bipush 6, 2) := by decide +kernel
theorem dX9_joined_39 : decode cX9_joined 39 = .ok (.invokevirtual 139, 3) := by decide +kernel
theorem dX9_joined_42 : decode cX9_joined 42 = .ok (.ireturn, 1) := by decide +kernel
theorem dX9_joined_43 : decode cX9_joined 43 = .ok (.aload_n 0, 1) := by decide +kernel
theorem dX9_joined_44 : decode cX9_joined 44 = .ok (.iconst 0, 1) := by decide +kernel
theorem dX9_joined_45 : decode cX9_joined 45 = .ok (.putfield 109, 3) := by decide +kernel
theorem dX9_joined_48 : decode cX9_joined 48 = .ok (.aload_n 0, 1) := by decide +kernel
theorem dX9_joined_49 : decode cX9_joined 49 = .ok (.getfield 96, 3) := by decide +kernel
theorem dX9_joined_52 : decode cX9_joined 52 = .ok (.bipush 40, 2) := by decide +kernel
theorem dX9_joined_54 : decode cX9_joined 54 = .ok (.iload_n 1, 1) := by decide +kernel
theorem dX9_joined_55 : decode cX9_joined 55 = .ok (.iload_n 2, 1) := by decide +kernel
theorem dX9_joined_56 : decode cX9_joined 56 = .ok (.invokestatic 234, 3) := by decide +kernel
theorem dX9_joined_59 : decode cX9_joined 59 = .ok (.imul, 1) := by decide +kernel
theorem dX9_joined_60 : decode cX9_joined 60 = .ok (.iload_n 3, 1) := by decide +kernel
theorem dX9_joined_61 : decode cX9_joined 61 = .ok (.iadd, 1) := by decide +kernel
theorem dX9_joined_62 : decode cX9_joined 62 = .ok (.baload, 1) := by decide +kernel
theorem dX9_joined_63 : decode cX9_joined 63 = .ok (.ifCond .eq 17, 3) := by decide +kernel
theorem dX9_joined_66 : decode cX9_joined 66 = .ok (.aload_n 0, 1) := by decide +kernel
theorem dX9_joined_67 : decode cX9_joined 67 = .ok (.getfield 90, 3) := by decide +kernel
theorem dX9_joined_70 : decode cX9_joined 70 = .ok (.bipush 40, 2) := by decide +kernel
theorem dX9_joined_72 : decode cX9_joined 72 = .ok (.iload_n 1, 1) := by decide +kernel
theorem dX9_joined_73 : decode cX9_joined 73 = .ok (.imul, 1) := by decide +kernel
theorem dX9_joined_74 : decode cX9_joined 74 = .ok (.iload_n 3, 1) := by decide +kernel
theorem dX9_joined_75 : decode cX9_joined 75 = .ok (.iadd, 1) := by decide +kernel
theorem dX9_joined_76 : decode cX9_joined 76 = .ok (.iaload, 1) := by decide +kernel
theorem dX9_joined_77 : decode cX9_joined 77 = .ok (.goto 4, 3) := by decide +kernel
theorem dX9_joined_80 : decode cX9_joined 80 = .ok (.iconst 0, 1) := by decide +kernel
theorem dX9_joined_81 : decode cX9_joined 81 = .ok (.ireturn, 1) := by decide +kernel
theorem dX9_knows_0 : decode cX9_knows 0 = .ok (.aload_n 0, 1) := by decide +kernel
theorem dX9_knows_1 : decode cX9_knows 1 = .ok (.iload_n 1, 1) := by decide +kernel
theorem dX9_knows_2 : decode cX9_knows 2 = .ok (.invokevirtual 237, 3) := by decide +kernel
theorem dX9_knows_5 : decode cX9_knows 5 = .ok (.ifCond .eq 11, 3) := by decide +kernel
theorem dX9_knows_8 : decode cX9_knows 8 = .ok (.aload_n 0, 1) := by decide +kernel
theorem dX9_knows_9 : decode cX9_knows 9 = .ok (.iload_n 2, 1) := by decide +kernel
theorem dX9_knows_10 : decode cX9_knows 10 = .ok (.invokevirtual 146, 3) := by decide +kernel
theorem dX9_knows_13 : decode cX9_knows 13 = .ok (.ifCond .ne 9, 3) := by decide +kernel
theorem dX9_knows_16 : decode cX9_knows 16 = .ok (.aload_n 0, 1) := by decide +kernel
theorem dX9_knows_17 : decode cX9_knows 17 = .ok (.iconst 1, 1) := by decide +kernel
theorem dX9_knows_18 : decode cX9_knows 18 = .ok (.invokevirtual 139, 3) := by decide +kernel
theorem dX9_knows_21 : decode cX9_knows 21 = .ok (.ireturn, 1) := by decide +kernel
theorem dX9_knows_22 : decode cX9_knows 22 = .ok (.aload_n 0, 1) := by decide +kernel
theorem dX9_knows_23 : decode cX9_knows 23 = .ok (.getfield 93, 3) := by decide +kernel
theorem dX9_knows_26 : decode cX9_knows 26 = .ok (.iload_n 1, 1) := by decide +kernel
theorem dX9_knows_27 : decode cX9_knows 27 = .ok (.iload_n 2, 1) := by decide +kernel
theorem dX9_knows_28 : decode cX9_knows 28 = .ok (.invokestatic 234, 3) := by decide +kernel
theorem dX9_knows_31 : decode cX9_knows 31 = .ok (.iaload, 1) := by decide +kernel
theorem dX9_knows_32 : decode cX9_knows 32 = .ok (.iconst (-1), 1) := by decide +kernel
theorem dX9_knows_33 : decode cX9_knows 33 = .ok (.if_icmp .ne 10, 3) := by decide +kernel
theorem dX9_knows_36 : decode cX9_knows 36 = .ok (.aload_n 0, 1) := by decide +kernel
theorem dX9_knows_37 : decode cX9_knows 37 = .ok (.bipush 7, 2) := by decide +kernel
theorem dX9_knows_39 : decode cX9_knows 39 = .ok (.invokevirtual 139, 3) := by decide +kernel
theorem dX9_knows_42 : decode cX9_knows 42 = .ok (.ireturn, 1) := by decide +kernel
theorem dX9_knows_43 : decode cX9_knows 43 = .ok (.aload_n 0, 1) := by decide +kernel
theorem dX9_knows_44 : decode cX9_knows 44 = .ok (.iconst 0, 1) := by decide +kernel
theorem dX9_knows_45 : decode cX9_knows 45 = .ok (.putfield 109, 3) := by decide +kernel
theorem dX9_knows_48 : decode cX9_knows 48 = .ok (.aload_n 0, 1) := by decide +kernel
theorem dX9_knows_49 : decode cX9_knows 49 = .ok (.getfield 93, 3) := by decide +kernel
theorem dX9_knows_52 : decode cX9_knows 52 = .ok (.iload_n 1, 1) := by decide +kernel
theorem dX9_knows_53 : decode cX9_knows 53 = .ok (.iload_n 2, 1) := by decide +kernel
theorem dX9_knows_54 : decode cX9_knows 54 = .ok (.invokestatic 234, 3) := by decide +kernel
theorem dX9_knows_57 : decode cX9_knows 57 = .ok (.iaload, 1) := by decide +kernel
theorem dX9_knows_58 : decode cX9_knows 58 = .ok (.ireturn, 1) := by decide +kernel
theorem dX9_lack_0 : decode cX9_lack 0 = .ok (.aload_n 0, 1) := by decide +kernel
theorem dX9_lack_1 : decode cX9_lack 1 = .ok (.iload_n 1, 1) := by decide +kernel
theorem dX9_lack_2 : decode cX9_lack 2 = .ok (.invokevirtual 146, 3) := by decide +kernel
theorem dX9_lack_5 : decode cX9_lack 5 = .ok (.ifCond .eq 16, 3) := by decide +kernel
theorem dX9_lack_8 : decode cX9_lack 8 = .ok (.aload_n 0, 1) := by decide +kernel
theorem dX9_lack_9 : decode cX9_lack 9 = .ok (.iload_n 2, 1) := by decide +kernel
theorem dX9_lack_10 : decode cX9_lack 10 = .ok (.invokevirtual 146, 3) := by decide +kernel
theorem dX9_lack_13 : decode cX9_lack 13 = .ok (.ifCond .eq 8, 3) := by decide +kernel
theorem dX9_lack_16 : decode cX9_lack 16 = .ok (.iload_n 1, 1) := by decide +kernel
theorem dX9_lack_17 : decode cX9_lack 17 = .ok (.iload_n 2, 1) := by decide +kernel
theorem dX9_lack_18 : decode cX9_lack 18 = .ok (.if_icmp .ne 9, 3) := by decide +kernel
theorem dX9_lack_21 : decode cX9_lack 21 = .ok (.aload_n 0, 1) := by decide +kernel
theorem dX9_lack_22 : decode cX9_lack 22 = .ok (.iconst 1, 1) := by decide +kernel
theorem dX9_lack_23 : decode cX9_lack 23 = .ok (.invokevirtual 139, 3) := by decide +kernel
theorem dX9_lack_26 : decode cX9_lack 26 = .ok (.ireturn, 1) := by decide +kernel
theorem dX9_lack_27 : decode cX9_lack 27 = .ok (.aload_n 0, 1) := by decide +kernel
theorem dX9_lack_28 : decode cX9_lack 28 = .ok (.iconst 0, 1) := by decide +kernel
theorem dX9_lack_29 : decode cX9_lack 29 = .ok (.putfield 109, 3) := by decide +kernel
theorem dX9_lack_32 : decode cX9_lack 32 = .ok (.aload_n 0, 1) := by decide +kernel
theorem dX9_lack_33 : decode cX9_lack 33 = .ok (.iload_n 1, 1) := by decide +kernel
theorem dX9_lack_34 : decode cX9_lack 34 = .ok (.iload_n 2, 1) := by decide +kernel
theorem dX9_lack_35 : decode cX9_lack 35 = .ok (.invokevirtual 203, 3) := by decide +kernel
theorem dX9_lack_38 : decode cX9_lack 38 = .ok (.ireturn, 1) := by decide +kernel
theorem dX9_lackOf_0 : decode cX9_lackOf 0 = .ok (.iload_n 1, 1) := by decide +kernel
theorem dX9_lackOf_1 : decode cX9_lackOf 1 = .ok (.iload_n 2, 1) := by decide +kernel
theorem dX9_lackOf_2 : decode cX9_lackOf 2 = .ok (.if_icmp .ne 7, 3) := by decide +kernel
theorem dX9_lackOf_5 : decode cX9_lackOf 5 = .ok (.iconst 0, 1) := by decide +kernel
theorem dX9_lackOf_6 : decode cX9_lackOf 6 = .ok (.goto 24, 3) := by decide +kernel
theorem dX9_lackOf_9 : decode cX9_lackOf 9 = .ok (.iconst 0, 1) := by decide +kernel
theorem dX9_lackOf_10 : decode cX9_lackOf 10 = .ok (.aload_n 0, 1) := by decide +kernel
theorem dX9_lackOf_11 : decode cX9_lackOf 11 = .ok (.getfield 33, 3) := by decide +kernel
theorem dX9_lackOf_14 : decode cX9_lackOf 14 = .ok (.iload_n 1, 1) := by decide +kernel
theorem dX9_lackOf_15 : decode cX9_lackOf 15 = .ok (.iload_n 2, 1) := by decide +kernel
theorem dX9_lackOf_16 : decode cX9_lackOf 16 = .ok (.invokestatic 143, 3) := by decide +kernel
theorem dX9_lackOf_19 : decode cX9_lackOf 19 = .ok (.iaload, 1) := by decide +kernel
theorem dX9_lackOf_20 : decode cX9_lackOf 20 = .ok (.aload_n 0, 1) := by decide +kernel
theorem dX9_lackOf_21 : decode cX9_lackOf 21 = .ok (.iload_n 2, 1) := by decide +kernel
theorem dX9_lackOf_22 : decode cX9_lackOf 22 = .ok (.iload_n 1, 1) := by decide +kernel
theorem dX9_lackOf_23 : decode cX9_lackOf 23 = .ok (.invokevirtual 152, 3) := by decide +kernel
theorem dX9_lackOf_26 : decode cX9_lackOf 26 = .ok (.isub, 1) := by decide +kernel
theorem dX9_lackOf_27 : decode cX9_lackOf 27 = .ok (.invokestatic 198, 3) := by decide +kernel
theorem dX9_lackOf_30 : decode cX9_lackOf 30 = .ok (.ireturn, 1) := by decide +kernel
theorem dX9_leg_0 : decode cX9_leg 0 = .ok (.iload_n 1, 1) := by decide +kernel
theorem dX9_leg_1 : decode cX9_leg 1 = .ok (.ifCond .lt 17, 3) := by decide +kernel
theorem dX9_leg_4 : decode cX9_leg 4 = .ok (.iload_n 1, 1) := by decide +kernel
theorem dX9_leg_5 : decode cX9_leg 5 = .ok (.iconst 2, 1) := by decide +kernel
theorem dX9_leg_6 : decode cX9_leg 6 = .ok (.if_icmp .gt 12, 3) := by decide +kernel
theorem dX9_leg_9 : decode cX9_leg 9 = .ok (.iload_n 2, 1) := by decide +kernel
theorem dX9_leg_10 : decode cX9_leg 10 = .ok (.ifCond .lt 8, 3) := by decide +kernel
theorem dX9_leg_13 : decode cX9_leg 13 = .ok (.iload_n 2, 1) := by decide +kernel
theorem dX9_leg_14 : decode cX9_leg 14 = .ok (.iconst 2, 1) := by decide +kernel
theorem dX9_leg_15 : decode cX9_leg 15 = .ok (.if_icmp .le 9, 3) := by decide +kernel
theorem dX9_leg_18 : decode cX9_leg 18 = .ok (.aload_n 0, 1) := by decide +kernel
theorem dX9_leg_19 : decode cX9_leg 19 = .ok (.iconst 1, 1) := by decide +kernel
theorem dX9_leg_20 : decode cX9_leg 20 = .ok (.invokevirtual 139, 3) := by decide +kernel
theorem dX9_leg_23 : decode cX9_leg 23 = .ok (.ireturn, 1) := by decide +kernel
theorem dX9_leg_24 : decode cX9_leg 24 = .ok (.iload_n 1, 1) := by decide +kernel
theorem dX9_leg_25 : decode cX9_leg 25 = .ok (.aload_n 0, 1) := by decide +kernel
theorem dX9_leg_26 : decode cX9_leg 26 = .ok (.getfield 195, 3) := by decide +kernel
theorem dX9_leg_29 : decode cX9_leg 29 = .ok (.if_icmp .lt 10, 3) := by decide +kernel
theorem dX9_leg_32 : decode cX9_leg 32 = .ok (.aload_n 0, 1) := by decide +kernel
theorem dX9_leg_33 : decode cX9_leg 33 = .ok (.bipush 6, 2) := by decide +kernel
theorem dX9_leg_35 : decode cX9_leg 35 = .ok (.invokevirtual 139, 3) := by decide +kernel
theorem dX9_leg_38 : decode cX9_leg 38 = .ok (.ireturn, 1) := by decide +kernel
theorem dX9_leg_39 : decode cX9_leg 39 = .ok (.aload_n 0, 1) := by decide +kernel
theorem dX9_leg_40 : decode cX9_leg 40 = .ok (.iconst 0, 1) := by decide +kernel
theorem dX9_leg_41 : decode cX9_leg 41 = .ok (.putfield 109, 3) := by decide +kernel
theorem dX9_leg_44 : decode cX9_leg 44 = .ok (.iload_n 2, 1) := by decide +kernel
theorem dX9_leg_45 : decode cX9_leg 45 = .ok (.ifCond .ne 12, 3) := by decide +kernel
theorem dX9_leg_48 : decode cX9_leg 48 = .ok (.aload_n 0, 1) := by decide +kernel
theorem dX9_leg_49 : decode cX9_leg 49 = .ok (.getfield 66, 3) := by decide +kernel
theorem dX9_leg_52 : decode cX9_leg 52 = .ok (.iload_n 1, 1) := by decide +kernel
theorem dX9_leg_53 : decode cX9_leg 53 = .ok (.iaload, 1) := by decide +kernel
theorem dX9_leg_54 : decode cX9_leg 54 = .ok (.goto 25, 3) := by decide +kernel
theorem dX9_leg_57 : decode cX9_leg 57 = .ok (.iload_n 2, 1) := by decide +kernel
theorem dX9_leg_58 : decode cX9_leg 58 = .ok (.iconst 1, 1) := by decide +kernel
theorem dX9_leg_59 : decode cX9_leg 59 = .ok (.if_icmp .ne 14, 3) := by decide +kernel
theorem dX9_leg_62 : decode cX9_leg 62 = .ok (.aload_n 0, 1) := by decide +kernel
theorem dX9_leg_63 : decode cX9_leg 63 = .ok (.getfield 66, 3) := by decide +kernel
theorem dX9_leg_66 : decode cX9_leg 66 = .ok (.iload_n 1, 1) := by decide +kernel
theorem dX9_leg_67 : decode cX9_leg 67 = .ok (.iconst 1, 1) := by decide +kernel
theorem dX9_leg_68 : decode cX9_leg 68 = .ok (.iadd, 1) := by decide +kernel
theorem dX9_leg_69 : decode cX9_leg 69 = .ok (.iaload, 1) := by decide +kernel
theorem dX9_leg_70 : decode cX9_leg 70 = .ok (.goto 9, 3) := by decide +kernel
theorem dX9_leg_73 : decode cX9_leg 73 = .ok (.aload_n 0, 1) := by decide +kernel
theorem dX9_leg_74 : decode cX9_leg 74 = .ok (.getfield 69, 3) := by decide +kernel
theorem dX9_leg_77 : decode cX9_leg 77 = .ok (.iload_n 1, 1) := by decide +kernel
theorem dX9_leg_78 : decode cX9_leg 78 = .ok (.iaload, 1) := by decide +kernel
theorem dX9_leg_79 : decode cX9_leg 79 = .ok (.ireturn, 1) := by decide +kernel
theorem dX9_letter_0 : decode cX9_letter 0 = .ok (.aload_n 0, 1) := by decide +kernel
theorem dX9_letter_1 : decode cX9_letter 1 = .ok (.iload_n 1, 1) := by decide +kernel
theorem dX9_letter_2 : decode cX9_letter 2 = .ok (.invokevirtual 146, 3) := by decide +kernel
theorem dX9_letter_5 : decode cX9_letter 5 = .ok (.ifCond .eq 29, 3) := by decide +kernel
theorem dX9_letter_8 : decode cX9_letter 8 = .ok (.iload_n 2, 1) := by decide +kernel
theorem dX9_letter_9 : decode cX9_letter 9 = .ok (.invokestatic 116, 3) := by decide +kernel
theorem dX9_letter_12 : decode cX9_letter 12 = .ok (.ifCond .eq 22, 3) := by decide +kernel
theorem dX9_letter_15 : decode cX9_letter 15 = .ok (.iload_n 3, 1) := by decide +kernel
theorem dX9_letter_16 : decode cX9_letter 16 = .ok (.iconst 1, 1) := by decide +kernel
theorem dX9_letter_17 : decode cX9_letter 17 = .ok (.if_icmp .lt 17, 3) := by decide +kernel
theorem dX9_letter_20 : decode cX9_letter 20 = .ok (.iload_n 3, 1) := by decide +kernel
theorem dX9_letter_21 : decode cX9_letter 21 = .ok (.bipush 40, 2) := by decide +kernel
theorem dX9_letter_23 : decode cX9_letter 23 = .ok (.if_icmp .gt 11, 3) := by decide +kernel
theorem dX9_letter_26 : decode cX9_letter 26 = .ok (.iload 4, 2) := by decide +kernel
theorem dX9_letter_28 : decode cX9_letter 28 = .ok (.invokestatic 226, 3) := by decide +kernel
theorem dX9_letter_31 : decode cX9_letter 31 = .ok (.ifCond .ne 9, 3) := by decide +kernel
theorem dX9_letter_34 : decode cX9_letter 34 = .ok (.aload_n 0, 1) := by decide +kernel
theorem dX9_letter_35 : decode cX9_letter 35 = .ok (.iconst 1, 1) := by decide +kernel
theorem dX9_letter_36 : decode cX9_letter 36 = .ok (.invokevirtual 139, 3) := by decide +kernel
theorem dX9_letter_39 : decode cX9_letter 39 = .ok (.ireturn, 1) := by decide +kernel
theorem dX9_letter_40 : decode cX9_letter 40 = .ok (.iload 4, 2) := by decide +kernel
theorem dX9_letter_42 : decode cX9_letter 42 = .ok (.aload_n 0, 1) := by decide +kernel
theorem dX9_letter_43 : decode cX9_letter 43 = .ok (.getfield 229, 3) := by decide +kernel
theorem dX9_letter_46 : decode cX9_letter 46 = .ok (.if_icmp .ge 9, 3) := by decide +kernel
theorem dX9_letter_49 : decode cX9_letter 49 = .ok (.aload_n 0, 1) := by decide +kernel
theorem dX9_letter_50 : decode cX9_letter 50 = .ok (.iconst 2, 1) := by decide +kernel
theorem dX9_letter_51 : decode cX9_letter 51 = .ok (.invokevirtual 139, 3) := by decide +kernel
theorem dX9_letter_54 : decode cX9_letter 54 = .ok (.ireturn, 1) := by decide +kernel
theorem dX9_letter_55 : decode cX9_letter 55 = .ok (.aload_n 0, 1) := by decide +kernel
theorem dX9_letter_56 : decode cX9_letter 56 = .ok (.getfield 17, 3) := by decide +kernel
theorem dX9_letter_59 : decode cX9_letter 59 = .ok (.iload_n 2, 1) := by decide +kernel
theorem dX9_letter_60 : decode cX9_letter 60 = .ok (.iaload, 1) := by decide +kernel
theorem dX9_letter_61 : decode cX9_letter 61 = .ok (.iconst (-1), 1) := by decide +kernel
theorem dX9_letter_62 : decode cX9_letter 62 = .ok (.if_icmp .ne 9, 3) := by decide +kernel
theorem dX9_letter_65 : decode cX9_letter 65 = .ok (.aload_n 0, 1) := by decide +kernel
theorem dX9_letter_66 : decode cX9_letter 66 = .ok (.iconst 3, 1) := by decide +kernel
theorem dX9_letter_67 : decode cX9_letter 67 = .ok (.invokevirtual 139, 3) := by decide +kernel
theorem dX9_letter_70 : decode cX9_letter 70 = .ok (.ireturn, 1) := by decide +kernel
theorem dX9_letter_71 : decode cX9_letter 71 = .ok (.iload_n 3, 1) := by decide +kernel
theorem dX9_letter_72 : decode cX9_letter 72 = .ok (.aload_n 0, 1) := by decide +kernel
theorem dX9_letter_73 : decode cX9_letter 73 = .ok (.getfield 17, 3) := by decide +kernel
theorem dX9_letter_76 : decode cX9_letter 76 = .ok (.iload_n 2, 1) := by decide +kernel
theorem dX9_letter_77 : decode cX9_letter 77 = .ok (.iaload, 1) := by decide +kernel
theorem dX9_letter_78 : decode cX9_letter 78 = .ok (.if_icmp .le 9, 3) := by decide +kernel
theorem dX9_letter_81 : decode cX9_letter 81 = .ok (.aload_n 0, 1) := by decide +kernel
theorem dX9_letter_82 : decode cX9_letter 82 = .ok (.iconst 4, 1) := by decide +kernel
theorem dX9_letter_83 : decode cX9_letter 83 = .ok (.invokevirtual 139, 3) := by decide +kernel
theorem dX9_letter_86 : decode cX9_letter 86 = .ok (.ireturn, 1) := by decide +kernel
theorem dX9_letter_87 : decode cX9_letter 87 = .ok (.iconst 0, 1) := by decide +kernel
theorem dX9_letter_88 : decode cX9_letter 88 = .ok (.istore 5, 2) := by decide +kernel
theorem dX9_letter_90 : decode cX9_letter 90 = .ok (.iload 5, 2) := by decide +kernel
theorem dX9_letter_92 : decode cX9_letter 92 = .ok (.iload_n 3, 1) := by decide +kernel
theorem dX9_letter_93 : decode cX9_letter 93 = .ok (.if_icmp .ge 51, 3) := by decide +kernel
theorem dX9_letter_96 : decode cX9_letter 96 = .ok (.aload_n 0, 1) := by decide +kernel
theorem dX9_letter_97 : decode cX9_letter 97 = .ok (.getfield 20, 3) := by decide +kernel
theorem dX9_letter_100 : decode cX9_letter 100 = .ok (.bipush 60, 2) := by decide +kernel
theorem dX9_letter_102 : decode cX9_letter 102 = .ok (.iload_n 2, 1) := by decide +kernel
theorem dX9_letter_103 : decode cX9_letter 103 = .ok (.imul, 1) := by decide +kernel
theorem dX9_letter_104 : decode cX9_letter 104 = .ok (.iload 5, 2) := by decide +kernel
theorem dX9_letter_106 : decode cX9_letter 106 = .ok (.iadd, 1) := by decide +kernel
theorem dX9_letter_107 : decode cX9_letter 107 = .ok (.laload, 1) := by decide +kernel
theorem dX9_letter_108 : decode cX9_letter 108 = .ok (.lconst 1, 1) := by decide +kernel
theorem dX9_letter_109 : decode cX9_letter 109 = .ok (.lcmp, 1) := by decide +kernel
theorem dX9_letter_110 : decode cX9_letter 110 = .ok (.ifCond .lt 22, 3) := by decide +kernel
theorem dX9_letter_113 : decode cX9_letter 113 = .ok (.aload_n 0, 1) := by decide +kernel
theorem dX9_letter_114 : decode cX9_letter 114 = .ok (.getfield 20, 3) := by decide +kernel
theorem dX9_letter_117 : decode cX9_letter 117 = .ok (.bipush 60, 2) := by decide +kernel
theorem dX9_letter_119 : decode cX9_letter 119 = .ok (.iload_n 2, 1) := by decide +kernel
theorem dX9_letter_120 : decode cX9_letter 120 = .ok (.imul, 1) := by decide +kernel
theorem dX9_letter_121 : decode cX9_letter 121 = .ok (.iload 5, 2) := by decide +kernel
theorem dX9_letter_123 : decode cX9_letter 123 = .ok (.iadd, 1) := by decide +kernel
theorem dX9_letter_124 : decode cX9_letter 124 = .ok (.laload, 1) := by decide +kernel
theorem dX9_letter_125 : decode cX9_letter 125 = .ok (.ldc2_w 232, 3) := by decide +kernel
theorem dX9_letter_128 : decode cX9_letter 128 = .ok (.lcmp, 1) := by decide +kernel
theorem dX9_letter_129 : decode cX9_letter 129 = .ok (.ifCond .le 9, 3) := by decide +kernel
theorem dX9_letter_132 : decode cX9_letter 132 = .ok (.aload_n 0, 1) := by decide +kernel
theorem dX9_letter_133 : decode cX9_letter 133 = .ok (.iconst 1, 1) := by decide +kernel
theorem dX9_letter_134 : decode cX9_letter 134 = .ok (.invokevirtual 139, 3) := by decide +kernel
theorem dX9_letter_137 : decode cX9_letter 137 = .ok (.ireturn, 1) := by decide +kernel
theorem dX9_letter_138 : decode cX9_letter 138 = .ok (.iinc 5 1, 3) := by decide +kernel
theorem dX9_letter_141 : decode cX9_letter 141 = .ok (.goto (-51), 3) := by decide +kernel
theorem dX9_letter_144 : decode cX9_letter 144 = .ok (.aload_n 0, 1) := by decide +kernel
theorem dX9_letter_145 : decode cX9_letter 145 = .ok (.getfield 222, 3) := by decide +kernel
theorem dX9_letter_148 : decode cX9_letter 148 = .ok (.bipush 40, 2) := by decide +kernel
theorem dX9_letter_150 : decode cX9_letter 150 = .ok (.if_icmp .ne 9, 3) := by decide +kernel
theorem dX9_letter_153 : decode cX9_letter 153 = .ok (.aload_n 0, 1) := by decide +kernel
theorem dX9_letter_154 : decode cX9_letter 154 = .ok (.iconst 5, 1) := by decide +kernel
theorem dX9_letter_155 : decode cX9_letter 155 = .ok (.invokevirtual 139, 3) := by decide +kernel
theorem dX9_letter_158 : decode cX9_letter 158 = .ok (.ireturn, 1) := by decide +kernel
theorem dX9_letter_159 : decode cX9_letter 159 = .ok (.aload_n 0, 1) := by decide +kernel
theorem dX9_letter_160 : decode cX9_letter 160 = .ok (.getfield 222, 3) := by decide +kernel
theorem dX9_letter_163 : decode cX9_letter 163 = .ok (.istore 5, 2) := by decide +kernel
theorem dX9_letter_165 : decode cX9_letter 165 = .ok (.aload_n 0, 1) := by decide +kernel
theorem dX9_letter_166 : decode cX9_letter 166 = .ok (.dup, 1) := by decide +kernel
theorem dX9_letter_167 : decode cX9_letter 167 = .ok (.getfield 222, 3) := by decide +kernel
theorem dX9_letter_170 : decode cX9_letter 170 = .ok (.iconst 1, 1) := by decide +kernel
theorem dX9_letter_171 : decode cX9_letter 171 = .ok (.iadd, 1) := by decide +kernel
theorem dX9_letter_172 : decode cX9_letter 172 = .ok (.putfield 222, 3) := by decide +kernel
theorem dX9_letter_175 : decode cX9_letter 175 = .ok (.aload_n 0, 1) := by decide +kernel
theorem dX9_letter_176 : decode cX9_letter 176 = .ok (.iload 4, 2) := by decide +kernel
theorem dX9_letter_178 : decode cX9_letter 178 = .ok (.putfield 229, 3) := by decide +kernel
theorem dX9_letter_181 : decode cX9_letter 181 = .ok (.aload_n 0, 1) := by decide +kernel
theorem dX9_letter_182 : decode cX9_letter 182 = .ok (.getfield 78, 3) := by decide +kernel
theorem dX9_letter_185 : decode cX9_letter 185 = .ok (.iload 5, 2) := by decide +kernel
theorem dX9_letter_187 : decode cX9_letter 187 = .ok (.iload_n 3, 1) := by decide +kernel
theorem dX9_letter_188 : decode cX9_letter 188 = .ok (.iastore, 1) := by decide +kernel
theorem dX9_letter_189 : decode cX9_letter 189 = .ok (.iconst 0, 1) := by decide +kernel
theorem dX9_letter_190 : decode cX9_letter 190 = .ok (.istore 6, 2) := by decide +kernel
theorem dX9_letter_192 : decode cX9_letter 192 = .ok (.iload 6, 2) := by decide +kernel
theorem dX9_letter_194 : decode cX9_letter 194 = .ok (.iload_n 3, 1) := by decide +kernel
theorem dX9_letter_195 : decode cX9_letter 195 = .ok (.if_icmp .ge 35, 3) := by decide +kernel
theorem dX9_letter_198 : decode cX9_letter 198 = .ok (.aload_n 0, 1) := by decide +kernel
theorem dX9_letter_199 : decode cX9_letter 199 = .ok (.getfield 90, 3) := by decide +kernel
theorem dX9_letter_202 : decode cX9_letter 202 = .ok (.bipush 40, 2) := by decide +kernel
theorem dX9_letter_204 : decode cX9_letter 204 = .ok (.iload 5, 2) := by decide +kernel
theorem dX9_letter_206 : decode cX9_letter 206 = .ok (.imul, 1) := by decide +kernel
theorem dX9_letter_207 : decode cX9_letter 207 = .ok (.iload 6, 2) := by decide +kernel
theorem dX9_letter_209 : decode cX9_letter 209 = .ok (.iadd, 1) := by decide +kernel
theorem dX9_letter_210 : decode cX9_letter 210 = .ok (.aload_n 0, 1) := by decide +kernel
theorem dX9_letter_211 : decode cX9_letter 211 = .ok (.getfield 20, 3) := by decide +kernel
theorem dX9_letter_214 : decode cX9_letter 214 = .ok (.bipush 60, 2) := by decide +kernel
theorem dX9_letter_216 : decode cX9_letter 216 = .ok (.iload_n 2, 1) := by decide +kernel
theorem dX9_letter_217 : decode cX9_letter 217 = .ok (.imul, 1) := by decide +kernel
theorem dX9_letter_218 : decode cX9_letter 218 = .ok (.iload 6, 2) := by decide +kernel
theorem dX9_letter_220 : decode cX9_letter 220 = .ok (.iadd, 1) := by decide +kernel
theorem dX9_letter_221 : decode cX9_letter 221 = .ok (.laload, 1) := by decide +kernel
theorem dX9_letter_222 : decode cX9_letter 222 = .ok (.l2i, 1) := by decide +kernel
theorem dX9_letter_223 : decode cX9_letter 223 = .ok (.iastore, 1) := by decide +kernel
theorem dX9_letter_224 : decode cX9_letter 224 = .ok (.iinc 6 1, 3) := by decide +kernel
theorem dX9_letter_227 : decode cX9_letter 227 = .ok (.goto (-35), 3) := by decide +kernel
theorem dX9_letter_230 : decode cX9_letter 230 = .ok (.iconst 0, 1) := by decide +kernel
theorem dX9_letter_231 : decode cX9_letter 231 = .ok (.istore 6, 2) := by decide +kernel
theorem dX9_letter_233 : decode cX9_letter 233 = .ok (.iload 6, 2) := by decide +kernel
theorem dX9_letter_235 : decode cX9_letter 235 = .ok (.bipush 10, 2) := by decide +kernel
theorem dX9_letter_237 : decode cX9_letter 237 = .ok (.if_icmp .ge 78, 3) := by decide +kernel
theorem dX9_letter_240 : decode cX9_letter 240 = .ok (.aload_n 0, 1) := by decide +kernel
theorem dX9_letter_241 : decode cX9_letter 241 = .ok (.getfield 93, 3) := by decide +kernel
theorem dX9_letter_244 : decode cX9_letter 244 = .ok (.iload 5, 2) := by decide +kernel
theorem dX9_letter_246 : decode cX9_letter 246 = .ok (.iload 6, 2) := by decide +kernel
theorem dX9_letter_248 : decode cX9_letter 248 = .ok (.invokestatic 234, 3) := by decide +kernel
theorem dX9_letter_251 : decode cX9_letter 251 = .ok (.iload 6, 2) := by decide +kernel
theorem dX9_letter_253 : decode cX9_letter 253 = .ok (.iload_n 1, 1) := by decide +kernel
theorem dX9_letter_254 : decode cX9_letter 254 = .ok (.if_icmp .ne 8, 3) := by decide +kernel
theorem dX9_letter_257 : decode cX9_letter 257 = .ok (.iload 4, 2) := by decide +kernel
theorem dX9_letter_259 : decode cX9_letter 259 = .ok (.goto 4, 3) := by decide +kernel
theorem dX9_letter_262 : decode cX9_letter 262 = .ok (.iconst (-1), 1) := by decide +kernel
theorem dX9_letter_263 : decode cX9_letter 263 = .ok (.iastore, 1) := by decide +kernel
theorem dX9_letter_264 : decode cX9_letter 264 = .ok (.iconst 0, 1) := by decide +kernel
theorem dX9_letter_265 : decode cX9_letter 265 = .ok (.istore 7, 2) := by decide +kernel
theorem dX9_letter_267 : decode cX9_letter 267 = .ok (.iload 7, 2) := by decide +kernel
theorem dX9_letter_269 : decode cX9_letter 269 = .ok (.bipush 40, 2) := by decide +kernel
theorem dX9_letter_271 : decode cX9_letter 271 = .ok (.if_icmp .ge 38, 3) := by decide +kernel
theorem dX9_letter_274 : decode cX9_letter 274 = .ok (.aload_n 0, 1) := by decide +kernel
theorem dX9_letter_275 : decode cX9_letter 275 = .ok (.getfield 96, 3) := by decide +kernel
theorem dX9_letter_278 : decode cX9_letter 278 = .ok (.bipush 40, 2) := by decide +kernel
theorem dX9_letter_280 : decode cX9_letter 280 = .ok (.iload 5, 2) := by decide +kernel
theorem dX9_letter_282 : decode cX9_letter 282 = .ok (.iload 6, 2) := by decide +kernel
theorem dX9_letter_284 : decode cX9_letter 284 = .ok (.invokestatic 234, 3) := by decide +kernel
theorem dX9_letter_287 : decode cX9_letter 287 = .ok (.imul, 1) := by decide +kernel
theorem dX9_letter_288 : decode cX9_letter 288 = .ok (.iload 7, 2) := by decide +kernel
theorem dX9_letter_290 : decode cX9_letter 290 = .ok (.iadd, 1) := by decide +kernel
theorem dX9_letter_291 : decode cX9_letter 291 = .ok (.iload 6, 2) := by decide +kernel
theorem dX9_letter_293 : decode cX9_letter 293 = .ok (.iload_n 1, 1) := by decide +kernel
theorem dX9_letter_294 : decode cX9_letter 294 = .ok (.if_icmp .ne 7, 3) := by decide +kernel
theorem dX9_letter_297 : decode cX9_letter 297 = .ok (.iconst 1, 1) := by decide +kernel
theorem dX9_letter_298 : decode cX9_letter 298 = .ok (.goto 4, 3) := by decide +kernel
theorem dX9_letter_301 : decode cX9_letter 301 = .ok (.iconst 0, 1) := by decide +kernel
theorem dX9_letter_302 : decode cX9_letter 302 = .ok (.bastore, 1) := by decide +kernel
theorem dX9_letter_303 : decode cX9_letter 303 = .ok (.iinc 7 1, 3) := by decide +kernel
theorem dX9_letter_306 : decode cX9_letter 306 = .ok (.goto (-39), 3) := by decide +kernel
theorem dX9_letter_309 : decode cX9_letter 309 = .ok (.iinc 6 1, 3) := by decide +kernel
theorem dX9_letter_312 : decode cX9_letter 312 = .ok (.goto (-79), 3) := by decide +kernel
theorem dX9_letter_315 : decode cX9_letter 315 = .ok (.aload_n 0, 1) := by decide +kernel
theorem dX9_letter_316 : decode cX9_letter 316 = .ok (.iconst 0, 1) := by decide +kernel
theorem dX9_letter_317 : decode cX9_letter 317 = .ok (.putfield 109, 3) := by decide +kernel
theorem dX9_letter_320 : decode cX9_letter 320 = .ok (.iload 5, 2) := by decide +kernel
theorem dX9_letter_322 : decode cX9_letter 322 = .ok (.ireturn, 1) := by decide +kernel
theorem dX9_lose_0 : decode cX9_lose 0 = .ok (.aload_n 0, 1) := by decide +kernel
theorem dX9_lose_1 : decode cX9_lose 1 = .ok (.iload_n 1, 1) := by decide +kernel
theorem dX9_lose_2 : decode cX9_lose 2 = .ok (.invokevirtual 149, 3) := by decide +kernel
theorem dX9_lose_5 : decode cX9_lose 5 = .ok (.ifCond .eq 10, 3) := by decide +kernel
theorem dX9_lose_8 : decode cX9_lose 8 = .ok (.iload_n 2, 1) := by decide +kernel
theorem dX9_lose_9 : decode cX9_lose 9 = .ok (.invokestatic 226, 3) := by decide +kernel
theorem dX9_lose_12 : decode cX9_lose 12 = .ok (.ifCond .ne 9, 3) := by decide +kernel
theorem dX9_lose_15 : decode cX9_lose 15 = .ok (.aload_n 0, 1) := by decide +kernel
theorem dX9_lose_16 : decode cX9_lose 16 = .ok (.iconst 1, 1) := by decide +kernel
theorem dX9_lose_17 : decode cX9_lose 17 = .ok (.invokevirtual 120, 3) := by decide +kernel
theorem dX9_lose_20 : decode cX9_lose 20 = .ok (.ireturn, 1) := by decide +kernel
theorem dX9_lose_21 : decode cX9_lose 21 = .ok (.iload_n 2, 1) := by decide +kernel
theorem dX9_lose_22 : decode cX9_lose 22 = .ok (.aload_n 0, 1) := by decide +kernel
theorem dX9_lose_23 : decode cX9_lose 23 = .ok (.getfield 229, 3) := by decide +kernel
theorem dX9_lose_26 : decode cX9_lose 26 = .ok (.if_icmp .ge 9, 3) := by decide +kernel
theorem dX9_lose_29 : decode cX9_lose 29 = .ok (.aload_n 0, 1) := by decide +kernel
theorem dX9_lose_30 : decode cX9_lose 30 = .ok (.iconst 2, 1) := by decide +kernel
theorem dX9_lose_31 : decode cX9_lose 31 = .ok (.invokevirtual 120, 3) := by decide +kernel
theorem dX9_lose_34 : decode cX9_lose 34 = .ok (.ireturn, 1) := by decide +kernel
theorem dX9_lose_35 : decode cX9_lose 35 = .ok (.aload_n 0, 1) := by decide +kernel
theorem dX9_lose_36 : decode cX9_lose 36 = .ok (.getfield 45, 3) := by decide +kernel
theorem dX9_lose_39 : decode cX9_lose 39 = .ok (.iload_n 1, 1) := by decide +kernel
theorem dX9_lose_40 : decode cX9_lose 40 = .ok (.iaload, 1) := by decide +kernel
theorem dX9_lose_41 : decode cX9_lose 41 = .ok (.iconst 1, 1) := by decide +kernel
theorem dX9_lose_42 : decode cX9_lose 42 = .ok (.if_icmp .eq 10, 3) := by decide +kernel
theorem dX9_lose_45 : decode cX9_lose 45 = .ok (.aload_n 0, 1) := by decide +kernel
theorem dX9_lose_46 : decode cX9_lose 46 = .ok (.bipush 7, 2) := by decide +kernel
theorem dX9_lose_48 : decode cX9_lose 48 = .ok (.invokevirtual 120, 3) := by decide +kernel
theorem dX9_lose_51 : decode cX9_lose 51 = .ok (.ireturn, 1) := by decide +kernel
theorem dX9_lose_52 : decode cX9_lose 52 = .ok (.aload_n 0, 1) := by decide +kernel
theorem dX9_lose_53 : decode cX9_lose 53 = .ok (.iload_n 2, 1) := by decide +kernel
theorem dX9_lose_54 : decode cX9_lose 54 = .ok (.putfield 229, 3) := by decide +kernel
theorem dX9_lose_57 : decode cX9_lose 57 = .ok (.aload_n 0, 1) := by decide +kernel
theorem dX9_lose_58 : decode cX9_lose 58 = .ok (.getfield 45, 3) := by decide +kernel
theorem dX9_lose_61 : decode cX9_lose 61 = .ok (.iload_n 1, 1) := by decide +kernel
theorem dX9_lose_62 : decode cX9_lose 62 = .ok (.iconst 2, 1) := by decide +kernel
theorem dX9_lose_63 : decode cX9_lose 63 = .ok (.iastore, 1) := by decide +kernel
theorem dX9_lose_64 : decode cX9_lose 64 = .ok (.aload_n 0, 1) := by decide +kernel
theorem dX9_lose_65 : decode cX9_lose 65 = .ok (.getfield 87, 3) := by decide +kernel
theorem dX9_lose_68 : decode cX9_lose 68 = .ok (.aload_n 0, 1) := by decide +kernel
theorem dX9_lose_69 : decode cX9_lose 69 = .ok (.getfield 51, 3) := by decide +kernel
theorem dX9_lose_72 : decode cX9_lose 72 = .ok (.iload_n 1, 1) := by decide +kernel
theorem dX9_lose_73 : decode cX9_lose 73 = .ok (.iaload, 1) := by decide +kernel
theorem dX9_lose_74 : decode cX9_lose 74 = .ok (.dup2, 1) := by decide +kernel
theorem dX9_lose_75 : decode cX9_lose 75 = .ok (.iaload, 1) := by decide +kernel
theorem dX9_lose_76 : decode cX9_lose 76 = .ok (.iconst 1, 1) := by decide +kernel
theorem dX9_lose_77 : decode cX9_lose 77 = .ok (.iadd, 1) := by decide +kernel
theorem dX9_lose_78 : decode cX9_lose 78 = .ok (.iastore, 1) := by decide +kernel
theorem dX9_lose_79 : decode cX9_lose 79 = .ok (.aload_n 0, 1) := by decide +kernel
theorem dX9_lose_80 : decode cX9_lose 80 = .ok (.iconst 0, 1) := by decide +kernel
theorem dX9_lose_81 : decode cX9_lose 81 = .ok (.invokevirtual 120, 3) := by decide +kernel
theorem dX9_lose_84 : decode cX9_lose 84 = .ok (.ireturn, 1) := by decide +kernel
theorem dX9_place_0 : decode cX9_place 0 = .ok (.bipush 10, 2) := by decide +kernel
theorem dX9_place_2 : decode cX9_place 2 = .ok (.iload_n 0, 1) := by decide +kernel
theorem dX9_place_3 : decode cX9_place 3 = .ok (.imul, 1) := by decide +kernel
theorem dX9_place_4 : decode cX9_place 4 = .ok (.iload_n 1, 1) := by decide +kernel
theorem dX9_place_5 : decode cX9_place 5 = .ok (.iadd, 1) := by decide +kernel
theorem dX9_place_6 : decode cX9_place 6 = .ok (.ireturn, 1) := by decide +kernel
theorem dX9_pour_0 : decode cX9_pour 0 = .ok (.iload_n 1, 1) := by decide +kernel
theorem dX9_pour_1 : decode cX9_pour 1 = .ok (.invokestatic 116, 3) := by decide +kernel
theorem dX9_pour_4 : decode cX9_pour 4 = .ok (.ifCond .eq 24, 3) := by decide +kernel
theorem dX9_pour_7 : decode cX9_pour 7 = .ok (.iload_n 3, 1) := by decide +kernel
theorem dX9_pour_8 : decode cX9_pour 8 = .ok (.invokestatic 116, 3) := by decide +kernel
theorem dX9_pour_11 : decode cX9_pour 11 = .ok (.ifCond .eq 17, 3) := by decide +kernel
theorem dX9_pour_14 : decode cX9_pour 14 = .ok (.iload_n 2, 1) := by decide +kernel
theorem dX9_pour_15 : decode cX9_pour 15 = .ok (.ifCond .lt 13, 3) := by decide +kernel
theorem dX9_pour_18 : decode cX9_pour 18 = .ok (.iload 4, 2) := by decide +kernel
theorem dX9_pour_20 : decode cX9_pour 20 = .ok (.ifCond .lt 8, 3) := by decide +kernel
theorem dX9_pour_23 : decode cX9_pour 23 = .ok (.iload 5, 2) := by decide +kernel
theorem dX9_pour_25 : decode cX9_pour 25 = .ok (.ifCond .ge 9, 3) := by decide +kernel
theorem dX9_pour_28 : decode cX9_pour 28 = .ok (.aload_n 0, 1) := by decide +kernel
theorem dX9_pour_29 : decode cX9_pour 29 = .ok (.iconst 1, 1) := by decide +kernel
theorem dX9_pour_30 : decode cX9_pour 30 = .ok (.invokevirtual 120, 3) := by decide +kernel
theorem dX9_pour_33 : decode cX9_pour 33 = .ok (.ireturn, 1) := by decide +kernel
theorem dX9_pour_34 : decode cX9_pour 34 = .ok (.aload_n 0, 1) := by decide +kernel
theorem dX9_pour_35 : decode cX9_pour 35 = .ok (.getfield 17, 3) := by decide +kernel
theorem dX9_pour_38 : decode cX9_pour 38 = .ok (.iload_n 1, 1) := by decide +kernel
theorem dX9_pour_39 : decode cX9_pour 39 = .ok (.iaload, 1) := by decide +kernel
theorem dX9_pour_40 : decode cX9_pour 40 = .ok (.iconst (-1), 1) := by decide +kernel
theorem dX9_pour_41 : decode cX9_pour 41 = .ok (.if_icmp .eq 13, 3) := by decide +kernel
theorem dX9_pour_44 : decode cX9_pour 44 = .ok (.aload_n 0, 1) := by decide +kernel
theorem dX9_pour_45 : decode cX9_pour 45 = .ok (.getfield 17, 3) := by decide +kernel
theorem dX9_pour_48 : decode cX9_pour 48 = .ok (.iload_n 3, 1) := by decide +kernel
theorem dX9_pour_49 : decode cX9_pour 49 = .ok (.iaload, 1) := by decide +kernel
theorem dX9_pour_50 : decode cX9_pour 50 = .ok (.iconst (-1), 1) := by decide +kernel
theorem dX9_pour_51 : decode cX9_pour 51 = .ok (.if_icmp .ne 9, 3) := by decide +kernel
theorem dX9_pour_54 : decode cX9_pour 54 = .ok (.aload_n 0, 1) := by decide +kernel
theorem dX9_pour_55 : decode cX9_pour 55 = .ok (.iconst 3, 1) := by decide +kernel
theorem dX9_pour_56 : decode cX9_pour 56 = .ok (.invokevirtual 120, 3) := by decide +kernel
theorem dX9_pour_59 : decode cX9_pour 59 = .ok (.ireturn, 1) := by decide +kernel
theorem dX9_pour_60 : decode cX9_pour 60 = .ok (.aload_n 0, 1) := by decide +kernel
theorem dX9_pour_61 : decode cX9_pour 61 = .ok (.getfield 13, 3) := by decide +kernel
theorem dX9_pour_64 : decode cX9_pour 64 = .ok (.iload_n 1, 1) := by decide +kernel
theorem dX9_pour_65 : decode cX9_pour 65 = .ok (.iaload, 1) := by decide +kernel
theorem dX9_pour_66 : decode cX9_pour 66 = .ok (.aload_n 0, 1) := by decide +kernel
theorem dX9_pour_67 : decode cX9_pour 67 = .ok (.getfield 13, 3) := by decide +kernel
theorem dX9_pour_70 : decode cX9_pour 70 = .ok (.iload_n 3, 1) := by decide +kernel
theorem dX9_pour_71 : decode cX9_pour 71 = .ok (.iaload, 1) := by decide +kernel
theorem dX9_pour_72 : decode cX9_pour 72 = .ok (.if_icmp .eq 10, 3) := by decide +kernel
theorem dX9_pour_75 : decode cX9_pour 75 = .ok (.aload_n 0, 1) := by decide +kernel
theorem dX9_pour_76 : decode cX9_pour 76 = .ok (.bipush 8, 2) := by decide +kernel
theorem dX9_pour_78 : decode cX9_pour 78 = .ok (.invokevirtual 120, 3) := by decide +kernel
theorem dX9_pour_81 : decode cX9_pour 81 = .ok (.ireturn, 1) := by decide +kernel
theorem dX9_pour_82 : decode cX9_pour 82 = .ok (.iload 5, 2) := by decide +kernel
theorem dX9_pour_84 : decode cX9_pour 84 = .ok (.aload_n 0, 1) := by decide +kernel
theorem dX9_pour_85 : decode cX9_pour 85 = .ok (.getfield 17, 3) := by decide +kernel
theorem dX9_pour_88 : decode cX9_pour 88 = .ok (.iload_n 1, 1) := by decide +kernel
theorem dX9_pour_89 : decode cX9_pour 89 = .ok (.iaload, 1) := by decide +kernel
theorem dX9_pour_90 : decode cX9_pour 90 = .ok (.iload_n 2, 1) := by decide +kernel
theorem dX9_pour_91 : decode cX9_pour 91 = .ok (.isub, 1) := by decide +kernel
theorem dX9_pour_92 : decode cX9_pour 92 = .ok (.if_icmp .gt 17, 3) := by decide +kernel
theorem dX9_pour_95 : decode cX9_pour 95 = .ok (.iload 5, 2) := by decide +kernel
theorem dX9_pour_97 : decode cX9_pour 97 = .ok (.aload_n 0, 1) := by decide +kernel
theorem dX9_pour_98 : decode cX9_pour 98 = .ok (.getfield 17, 3) := by decide +kernel
theorem dX9_pour_101 : decode cX9_pour 101 = .ok (.iload_n 3, 1) := by decide +kernel
theorem dX9_pour_102 : decode cX9_pour 102 = .ok (.iaload, 1) := by decide +kernel
theorem dX9_pour_103 : decode cX9_pour 103 = .ok (.iload 4, 2) := by decide +kernel
theorem dX9_pour_105 : decode cX9_pour 105 = .ok (.isub, 1) := by decide +kernel
theorem dX9_pour_106 : decode cX9_pour 106 = .ok (.if_icmp .le 9, 3) := by decide +kernel
theorem dX9_pour_109 : decode cX9_pour 109 = .ok (.aload_n 0, 1) := by decide +kernel
theorem dX9_pour_110 : decode cX9_pour 110 = .ok (.iconst 4, 1) := by decide +kernel
theorem dX9_pour_111 : decode cX9_pour 111 = .ok (.invokevirtual 120, 3) := by decide +kernel
theorem dX9_pour_114 : decode cX9_pour 114 = .ok (.ireturn, 1) := by decide +kernel
theorem dX9_pour_115 : decode cX9_pour 115 = .ok (.iconst 0, 1) := by decide +kernel
theorem dX9_pour_116 : decode cX9_pour 116 = .ok (.istore 6, 2) := by decide +kernel
theorem dX9_pour_118 : decode cX9_pour 118 = .ok (.iload 6, 2) := by decide +kernel
theorem dX9_pour_120 : decode cX9_pour 120 = .ok (.iload 5, 2) := by decide +kernel
theorem dX9_pour_122 : decode cX9_pour 122 = .ok (.if_icmp .ge 58, 3) := by decide +kernel
theorem dX9_pour_125 : decode cX9_pour 125 = .ok (.iload_n 2, 1) := by decide +kernel
theorem dX9_pour_126 : decode cX9_pour 126 = .ok (.iload 4, 2) := by decide +kernel
theorem dX9_pour_128 : decode cX9_pour 128 = .ok (.if_icmp .ge 13, 3) := by decide +kernel
theorem dX9_pour_131 : decode cX9_pour 131 = .ok (.iload 5, 2) := by decide +kernel
theorem dX9_pour_133 : decode cX9_pour 133 = .ok (.iconst 1, 1) := by decide +kernel
theorem dX9_pour_134 : decode cX9_pour 134 = .ok (.isub, 1) := by decide +kernel
theorem dX9_pour_135 : decode cX9_pour 135 = .ok (.iload 6, 2) := by decide +kernel
theorem dX9_pour_137 : decode cX9_pour 137 = .ok (.isub, 1) := by decide +kernel
theorem dX9_pour_138 : decode cX9_pour 138 = .ok (.goto 5, 3) := by decide +kernel
theorem dX9_pour_141 : decode cX9_pour 141 = .ok (.iload 6, 2) := by decide +kernel
theorem dX9_pour_143 : decode cX9_pour 143 = .ok (.istore 7, 2) := by decide +kernel
theorem dX9_pour_145 : decode cX9_pour 145 = .ok (.aload_n 0, 1) := by decide +kernel
theorem dX9_pour_146 : decode cX9_pour 146 = .ok (.getfield 20, 3) := by decide +kernel
theorem dX9_pour_149 : decode cX9_pour 149 = .ok (.bipush 60, 2) := by decide +kernel
theorem dX9_pour_151 : decode cX9_pour 151 = .ok (.iload_n 3, 1) := by decide +kernel
theorem dX9_pour_152 : decode cX9_pour 152 = .ok (.imul, 1) := by decide +kernel
theorem dX9_pour_153 : decode cX9_pour 153 = .ok (.iload 4, 2) := by decide +kernel
theorem dX9_pour_155 : decode cX9_pour 155 = .ok (.iadd, 1) := by decide +kernel
theorem dX9_pour_156 : decode cX9_pour 156 = .ok (.iload 7, 2) := by decide +kernel
theorem dX9_pour_158 : decode cX9_pour 158 = .ok (.iadd, 1) := by decide +kernel
theorem dX9_pour_159 : decode cX9_pour 159 = .ok (.aload_n 0, 1) := by decide +kernel
theorem dX9_pour_160 : decode cX9_pour 160 = .ok (.getfield 20, 3) := by decide +kernel
theorem dX9_pour_163 : decode cX9_pour 163 = .ok (.bipush 60, 2) := by decide +kernel
theorem dX9_pour_165 : decode cX9_pour 165 = .ok (.iload_n 1, 1) := by decide +kernel
theorem dX9_pour_166 : decode cX9_pour 166 = .ok (.imul, 1) := by decide +kernel
theorem dX9_pour_167 : decode cX9_pour 167 = .ok (.iload_n 2, 1) := by decide +kernel
theorem dX9_pour_168 : decode cX9_pour 168 = .ok (.iadd, 1) := by decide +kernel
theorem dX9_pour_169 : decode cX9_pour 169 = .ok (.iload 7, 2) := by decide +kernel
theorem dX9_pour_171 : decode cX9_pour 171 = .ok (.iadd, 1) := by decide +kernel
theorem dX9_pour_172 : decode cX9_pour 172 = .ok (.laload, 1) := by decide +kernel
theorem dX9_pour_173 : decode cX9_pour 173 = .ok (.lastore, 1) := by decide +kernel
theorem dX9_pour_174 : decode cX9_pour 174 = .ok (.iinc 6 1, 3) := by decide +kernel
theorem dX9_pour_177 : decode cX9_pour 177 = .ok (.goto (-59), 3) := by decide +kernel
theorem dX9_pour_180 : decode cX9_pour 180 = .ok (.aload_n 0, 1) := by decide +kernel
theorem dX9_pour_181 : decode cX9_pour 181 = .ok (.iconst 0, 1) := by decide +kernel
theorem dX9_pour_182 : decode cX9_pour 182 = .ok (.invokevirtual 120, 3) := by decide +kernel
theorem dX9_pour_185 : decode cX9_pour 185 = .ok (.ireturn, 1) := by decide +kernel
theorem dX9_power_0 : decode cX9_power 0 = .ok (.lconst 1, 1) := by decide +kernel
theorem dX9_power_1 : decode cX9_power 1 = .ok (.lstore_n 2, 1) := by decide +kernel
theorem dX9_power_2 : decode cX9_power 2 = .ok (.iconst 0, 1) := by decide +kernel
theorem dX9_power_3 : decode cX9_power 3 = .ok (.istore 4, 2) := by decide +kernel
theorem dX9_power_5 : decode cX9_power 5 = .ok (.iload 4, 2) := by decide +kernel
theorem dX9_power_7 : decode cX9_power 7 = .ok (.iload_n 1, 1) := by decide +kernel
theorem dX9_power_8 : decode cX9_power 8 = .ok (.if_icmp .ge 14, 3) := by decide +kernel
theorem dX9_power_11 : decode cX9_power 11 = .ok (.lload_n 2, 1) := by decide +kernel
theorem dX9_power_12 : decode cX9_power 12 = .ok (.iload_n 0, 1) := by decide +kernel
theorem dX9_power_13 : decode cX9_power 13 = .ok (.i2l, 1) := by decide +kernel
theorem dX9_power_14 : decode cX9_power 14 = .ok (.lmul, 1) := by decide +kernel
theorem dX9_power_15 : decode cX9_power 15 = .ok (.lstore_n 2, 1) := by decide +kernel
theorem dX9_power_16 : decode cX9_power 16 = .ok (.iinc 4 1, 3) := by decide +kernel
theorem dX9_power_19 : decode cX9_power 19 = .ok (.goto (-14), 3) := by decide +kernel
theorem dX9_power_22 : decode cX9_power 22 = .ok (.lload_n 2, 1) := by decide +kernel
theorem dX9_power_23 : decode cX9_power 23 = .ok (.lreturn, 1) := by decide +kernel
theorem dX9_read_0 : decode cX9_read 0 = .ok (.aload_n 0, 1) := by decide +kernel
theorem dX9_read_1 : decode cX9_read 1 = .ok (.aload_n 0, 1) := by decide +kernel
theorem dX9_read_2 : decode cX9_read 2 = .ok (.iload_n 1, 1) := by decide +kernel
theorem dX9_read_3 : decode cX9_read 3 = .ok (.iload_n 2, 1) := by decide +kernel
theorem dX9_read_4 : decode cX9_read 4 = .ok (.invokevirtual 123, 3) := by decide +kernel
theorem dX9_read_7 : decode cX9_read 7 = .ok (.putfield 109, 3) := by decide +kernel
theorem dX9_read_10 : decode cX9_read 10 = .ok (.aload_n 0, 1) := by decide +kernel
theorem dX9_read_11 : decode cX9_read 11 = .ok (.getfield 109, 3) := by decide +kernel
theorem dX9_read_14 : decode cX9_read 14 = .ok (.ifCond .le 9, 3) := by decide +kernel
theorem dX9_read_17 : decode cX9_read 17 = .ok (.ldc2_w 131, 3) := by decide +kernel
theorem dX9_read_20 : decode cX9_read 20 = .ok (.goto 14, 3) := by decide +kernel
theorem dX9_read_23 : decode cX9_read 23 = .ok (.aload_n 0, 1) := by decide +kernel
theorem dX9_read_24 : decode cX9_read 24 = .ok (.getfield 20, 3) := by decide +kernel
theorem dX9_read_27 : decode cX9_read 27 = .ok (.bipush 60, 2) := by decide +kernel
theorem dX9_read_29 : decode cX9_read 29 = .ok (.iload_n 1, 1) := by decide +kernel
theorem dX9_read_30 : decode cX9_read 30 = .ok (.imul, 1) := by decide +kernel
theorem dX9_read_31 : decode cX9_read 31 = .ok (.iload_n 2, 1) := by decide +kernel
theorem dX9_read_32 : decode cX9_read 32 = .ok (.iadd, 1) := by decide +kernel
theorem dX9_read_33 : decode cX9_read 33 = .ok (.laload, 1) := by decide +kernel
theorem dX9_read_34 : decode cX9_read 34 = .ok (.lreturn, 1) := by decide +kernel
theorem dX9_reading_0 : decode cX9_reading 0 = .ok (.aload_n 0, 1) := by decide +kernel
theorem dX9_reading_1 : decode cX9_reading 1 = .ok (.iload_n 1, 1) := by decide +kernel
theorem dX9_reading_2 : decode cX9_reading 2 = .ok (.invokevirtual 146, 3) := by decide +kernel
theorem dX9_reading_5 : decode cX9_reading 5 = .ok (.ifCond .eq 20, 3) := by decide +kernel
theorem dX9_reading_8 : decode cX9_reading 8 = .ok (.iload_n 2, 1) := by decide +kernel
theorem dX9_reading_9 : decode cX9_reading 9 = .ok (.invokestatic 226, 3) := by decide +kernel
theorem dX9_reading_12 : decode cX9_reading 12 = .ok (.ifCond .eq 13, 3) := by decide +kernel
theorem dX9_reading_15 : decode cX9_reading 15 = .ok (.iload_n 3, 1) := by decide +kernel
theorem dX9_reading_16 : decode cX9_reading 16 = .ok (.ifCond .lt 9, 3) := by decide +kernel
theorem dX9_reading_19 : decode cX9_reading 19 = .ok (.iload_n 3, 1) := by decide +kernel
theorem dX9_reading_20 : decode cX9_reading 20 = .ok (.ldc 240, 2) := by decide +kernel
theorem dX9_reading_22 : decode cX9_reading 22 = .ok (.if_icmp .le 9, 3) := by decide +kernel
theorem dX9_reading_25 : decode cX9_reading 25 = .ok (.aload_n 0, 1) := by decide +kernel
theorem dX9_reading_26 : decode cX9_reading 26 = .ok (.iconst 1, 1) := by decide +kernel
theorem dX9_reading_27 : decode cX9_reading 27 = .ok (.invokevirtual 120, 3) := by decide +kernel
theorem dX9_reading_30 : decode cX9_reading 30 = .ok (.ireturn, 1) := by decide +kernel
theorem dX9_reading_31 : decode cX9_reading 31 = .ok (.iload_n 2, 1) := by decide +kernel
theorem dX9_reading_32 : decode cX9_reading 32 = .ok (.aload_n 0, 1) := by decide +kernel
theorem dX9_reading_33 : decode cX9_reading 33 = .ok (.getfield 229, 3) := by decide +kernel
theorem dX9_reading_36 : decode cX9_reading 36 = .ok (.if_icmp .ge 9, 3) := by decide +kernel
theorem dX9_reading_39 : decode cX9_reading 39 = .ok (.aload_n 0, 1) := by decide +kernel
theorem dX9_reading_40 : decode cX9_reading 40 = .ok (.iconst 2, 1) := by decide +kernel
theorem dX9_reading_41 : decode cX9_reading 41 = .ok (.invokevirtual 120, 3) := by decide +kernel
theorem dX9_reading_44 : decode cX9_reading 44 = .ok (.ireturn, 1) := by decide +kernel
theorem dX9_reading_45 : decode cX9_reading 45 = .ok (.aload_n 0, 1) := by decide +kernel
theorem dX9_reading_46 : decode cX9_reading 46 = .ok (.getfield 100, 3) := by decide +kernel
theorem dX9_reading_49 : decode cX9_reading 49 = .ok (.iload_n 1, 1) := by decide +kernel
theorem dX9_reading_50 : decode cX9_reading 50 = .ok (.iaload, 1) := by decide +kernel
theorem dX9_reading_51 : decode cX9_reading 51 = .ok (.istore 4, 2) := by decide +kernel
theorem dX9_reading_53 : decode cX9_reading 53 = .ok (.iload 4, 2) := by decide +kernel
theorem dX9_reading_55 : decode cX9_reading 55 = .ok (.ifCond .le 45, 3) := by decide +kernel
theorem dX9_reading_58 : decode cX9_reading 58 = .ok (.iload_n 2, 1) := by decide +kernel
theorem dX9_reading_59 : decode cX9_reading 59 = .ok (.aload_n 0, 1) := by decide +kernel
theorem dX9_reading_60 : decode cX9_reading 60 = .ok (.getfield 103, 3) := by decide +kernel
theorem dX9_reading_63 : decode cX9_reading 63 = .ok (.bipush 10, 2) := by decide +kernel
theorem dX9_reading_65 : decode cX9_reading 65 = .ok (.iload_n 1, 1) := by decide +kernel
theorem dX9_reading_66 : decode cX9_reading 66 = .ok (.imul, 1) := by decide +kernel
theorem dX9_reading_67 : decode cX9_reading 67 = .ok (.iload 4, 2) := by decide +kernel
theorem dX9_reading_69 : decode cX9_reading 69 = .ok (.iadd, 1) := by decide +kernel
theorem dX9_reading_70 : decode cX9_reading 70 = .ok (.iconst 1, 1) := by decide +kernel
theorem dX9_reading_71 : decode cX9_reading 71 = .ok (.isub, 1) := by decide +kernel
theorem dX9_reading_72 : decode cX9_reading 72 = .ok (.iaload, 1) := by decide +kernel
theorem dX9_reading_73 : decode cX9_reading 73 = .ok (.if_icmp .le 21, 3) := by decide +kernel
theorem dX9_reading_76 : decode cX9_reading 76 = .ok (.iload_n 3, 1) := by decide +kernel
theorem dX9_reading_77 : decode cX9_reading 77 = .ok (.aload_n 0, 1) := by decide +kernel
theorem dX9_reading_78 : decode cX9_reading 78 = .ok (.getfield 106, 3) := by decide +kernel
theorem dX9_reading_81 : decode cX9_reading 81 = .ok (.bipush 10, 2) := by decide +kernel
theorem dX9_reading_83 : decode cX9_reading 83 = .ok (.iload_n 1, 1) := by decide +kernel
theorem dX9_reading_84 : decode cX9_reading 84 = .ok (.imul, 1) := by decide +kernel
theorem dX9_reading_85 : decode cX9_reading 85 = .ok (.iload 4, 2) := by decide +kernel
theorem dX9_reading_87 : decode cX9_reading 87 = .ok (.iadd, 1) := by decide +kernel
theorem dX9_reading_88 : decode cX9_reading 88 = .ok (.iconst 1, 1) := by decide +kernel
theorem dX9_reading_89 : decode cX9_reading 89 = .ok (.isub, 1) := by decide +kernel
theorem dX9_reading_90 : decode cX9_reading 90 = .ok (.iaload, 1) := by decide +kernel
theorem dX9_reading_91 : decode cX9_reading 91 = .ok (.if_icmp .gt 9, 3) := by decide +kernel
theorem dX9_reading_94 : decode cX9_reading 94 = .ok (.aload_n 0, 1) := by decide +kernel
theorem dX9_reading_95 : decode cX9_reading 95 = .ok (.iconst 1, 1) := by decide +kernel
theorem dX9_reading_96 : decode cX9_reading 96 = .ok (.invokevirtual 120, 3) := by decide +kernel
theorem dX9_reading_99 : decode cX9_reading 99 = .ok (.ireturn, 1) := by decide +kernel
theorem dX9_reading_100 : decode cX9_reading 100 = .ok (.iload 4, 2) := by decide +kernel
theorem dX9_reading_102 : decode cX9_reading 102 = .ok (.bipush 10, 2) := by decide +kernel
theorem dX9_reading_104 : decode cX9_reading 104 = .ok (.if_icmp .ne 9, 3) := by decide +kernel
theorem dX9_reading_107 : decode cX9_reading 107 = .ok (.aload_n 0, 1) := by decide +kernel
theorem dX9_reading_108 : decode cX9_reading 108 = .ok (.iconst 5, 1) := by decide +kernel
theorem dX9_reading_109 : decode cX9_reading 109 = .ok (.invokevirtual 120, 3) := by decide +kernel
theorem dX9_reading_112 : decode cX9_reading 112 = .ok (.ireturn, 1) := by decide +kernel
theorem dX9_reading_113 : decode cX9_reading 113 = .ok (.aload_n 0, 1) := by decide +kernel
theorem dX9_reading_114 : decode cX9_reading 114 = .ok (.iload_n 2, 1) := by decide +kernel
theorem dX9_reading_115 : decode cX9_reading 115 = .ok (.putfield 229, 3) := by decide +kernel
theorem dX9_reading_118 : decode cX9_reading 118 = .ok (.aload_n 0, 1) := by decide +kernel
theorem dX9_reading_119 : decode cX9_reading 119 = .ok (.getfield 103, 3) := by decide +kernel
theorem dX9_reading_122 : decode cX9_reading 122 = .ok (.bipush 10, 2) := by decide +kernel
theorem dX9_reading_124 : decode cX9_reading 124 = .ok (.iload_n 1, 1) := by decide +kernel
theorem dX9_reading_125 : decode cX9_reading 125 = .ok (.imul, 1) := by decide +kernel
theorem dX9_reading_126 : decode cX9_reading 126 = .ok (.iload 4, 2) := by decide +kernel
theorem dX9_reading_128 : decode cX9_reading 128 = .ok (.iadd, 1) := by decide +kernel
theorem dX9_reading_129 : decode cX9_reading 129 = .ok (.iload_n 2, 1) := by decide +kernel
theorem dX9_reading_130 : decode cX9_reading 130 = .ok (.iastore, 1) := by decide +kernel
theorem dX9_reading_131 : decode cX9_reading 131 = .ok (.aload_n 0, 1) := by decide +kernel
theorem dX9_reading_132 : decode cX9_reading 132 = .ok (.getfield 106, 3) := by decide +kernel
theorem dX9_reading_135 : decode cX9_reading 135 = .ok (.bipush 10, 2) := by decide +kernel
theorem dX9_reading_137 : decode cX9_reading 137 = .ok (.iload_n 1, 1) := by decide +kernel
theorem dX9_reading_138 : decode cX9_reading 138 = .ok (.imul, 1) := by decide +kernel
theorem dX9_reading_139 : decode cX9_reading 139 = .ok (.iload 4, 2) := by decide +kernel
theorem dX9_reading_141 : decode cX9_reading 141 = .ok (.iadd, 1) := by decide +kernel
theorem dX9_reading_142 : decode cX9_reading 142 = .ok (.iload_n 3, 1) := by decide +kernel
theorem dX9_reading_143 : decode cX9_reading 143 = .ok (.iastore, 1) := by decide +kernel
theorem dX9_reading_144 : decode cX9_reading 144 = .ok (.aload_n 0, 1) := by decide +kernel
theorem dX9_reading_145 : decode cX9_reading 145 = .ok (.getfield 100, 3) := by decide +kernel
theorem dX9_reading_148 : decode cX9_reading 148 = .ok (.iload_n 1, 1) := by decide +kernel
theorem dX9_reading_149 : decode cX9_reading 149 = .ok (.dup2, 1) := by decide +kernel
theorem dX9_reading_150 : decode cX9_reading 150 = .ok (.iaload, 1) := by decide +kernel
theorem dX9_reading_151 : decode cX9_reading 151 = .ok (.iconst 1, 1) := by decide +kernel
theorem dX9_reading_152 : decode cX9_reading 152 = .ok (.iadd, 1) := by decide +kernel
theorem dX9_reading_153 : decode cX9_reading 153 = .ok (.iastore, 1) := by decide +kernel
theorem dX9_reading_154 : decode cX9_reading 154 = .ok (.aload_n 0, 1) := by decide +kernel
theorem dX9_reading_155 : decode cX9_reading 155 = .ok (.iconst 0, 1) := by decide +kernel
theorem dX9_reading_156 : decode cX9_reading 156 = .ok (.invokevirtual 120, 3) := by decide +kernel
theorem dX9_reading_159 : decode cX9_reading 159 = .ok (.ireturn, 1) := by decide +kernel
theorem dX9_refuse_0 : decode cX9_refuse 0 = .ok (.aload_n 0, 1) := by decide +kernel
theorem dX9_refuse_1 : decode cX9_refuse 1 = .ok (.iload_n 1, 1) := by decide +kernel
theorem dX9_refuse_2 : decode cX9_refuse 2 = .ok (.putfield 109, 3) := by decide +kernel
theorem dX9_refuse_5 : decode cX9_refuse 5 = .ok (.iconst (-1), 1) := by decide +kernel
theorem dX9_refuse_6 : decode cX9_refuse 6 = .ok (.ireturn, 1) := by decide +kernel
theorem dX9_relay_0 : decode cX9_relay 0 = .ok (.aload_n 0, 1) := by decide +kernel
theorem dX9_relay_1 : decode cX9_relay 1 = .ok (.iload_n 1, 1) := by decide +kernel
theorem dX9_relay_2 : decode cX9_relay 2 = .ok (.invokevirtual 146, 3) := by decide +kernel
theorem dX9_relay_5 : decode cX9_relay 5 = .ok (.ifCond .eq 25, 3) := by decide +kernel
theorem dX9_relay_8 : decode cX9_relay 8 = .ok (.aload_n 0, 1) := by decide +kernel
theorem dX9_relay_9 : decode cX9_relay 9 = .ok (.iload_n 2, 1) := by decide +kernel
theorem dX9_relay_10 : decode cX9_relay 10 = .ok (.invokevirtual 146, 3) := by decide +kernel
theorem dX9_relay_13 : decode cX9_relay 13 = .ok (.ifCond .eq 17, 3) := by decide +kernel
theorem dX9_relay_16 : decode cX9_relay 16 = .ok (.iload_n 1, 1) := by decide +kernel
theorem dX9_relay_17 : decode cX9_relay 17 = .ok (.iload_n 2, 1) := by decide +kernel
theorem dX9_relay_18 : decode cX9_relay 18 = .ok (.if_icmp .eq 12, 3) := by decide +kernel
theorem dX9_relay_21 : decode cX9_relay 21 = .ok (.iload_n 3, 1) := by decide +kernel
theorem dX9_relay_22 : decode cX9_relay 22 = .ok (.iload 4, 2) := by decide +kernel
theorem dX9_relay_24 : decode cX9_relay 24 = .ok (.invokestatic 166, 3) := by decide +kernel
theorem dX9_relay_27 : decode cX9_relay 27 = .ok (.ifCond .ne 9, 3) := by decide +kernel
theorem dX9_relay_30 : decode cX9_relay 30 = .ok (.aload_n 0, 1) := by decide +kernel
theorem dX9_relay_31 : decode cX9_relay 31 = .ok (.iconst 1, 1) := by decide +kernel
theorem dX9_relay_32 : decode cX9_relay 32 = .ok (.invokevirtual 139, 3) := by decide +kernel
theorem dX9_relay_35 : decode cX9_relay 35 = .ok (.ireturn, 1) := by decide +kernel
theorem dX9_relay_36 : decode cX9_relay 36 = .ok (.aload_n 0, 1) := by decide +kernel
theorem dX9_relay_37 : decode cX9_relay 37 = .ok (.iconst 0, 1) := by decide +kernel
theorem dX9_relay_38 : decode cX9_relay 38 = .ok (.putfield 170, 3) := by decide +kernel
theorem dX9_relay_41 : decode cX9_relay 41 = .ok (.aload_n 0, 1) := by decide +kernel
theorem dX9_relay_42 : decode cX9_relay 42 = .ok (.getfield 54, 3) := by decide +kernel
theorem dX9_relay_45 : decode cX9_relay 45 = .ok (.iconst 0, 1) := by decide +kernel
theorem dX9_relay_46 : decode cX9_relay 46 = .ok (.iload_n 1, 1) := by decide +kernel
theorem dX9_relay_47 : decode cX9_relay 47 = .ok (.iastore, 1) := by decide +kernel
theorem dX9_relay_48 : decode cX9_relay 48 = .ok (.aload_n 0, 1) := by decide +kernel
theorem dX9_relay_49 : decode cX9_relay 49 = .ok (.iconst 1, 1) := by decide +kernel
theorem dX9_relay_50 : decode cX9_relay 50 = .ok (.putfield 179, 3) := by decide +kernel
theorem dX9_relay_53 : decode cX9_relay 53 = .ok (.aload_n 0, 1) := by decide +kernel
theorem dX9_relay_54 : decode cX9_relay 54 = .ok (.getfield 54, 3) := by decide +kernel
theorem dX9_relay_57 : decode cX9_relay 57 = .ok (.iconst 1, 1) := by decide +kernel
theorem dX9_relay_58 : decode cX9_relay 58 = .ok (.iload_n 2, 1) := by decide +kernel
theorem dX9_relay_59 : decode cX9_relay 59 = .ok (.iastore, 1) := by decide +kernel
theorem dX9_relay_60 : decode cX9_relay 60 = .ok (.aload_n 0, 1) := by decide +kernel
theorem dX9_relay_61 : decode cX9_relay 61 = .ok (.iload_n 3, 1) := by decide +kernel
theorem dX9_relay_62 : decode cX9_relay 62 = .ok (.iload 4, 2) := by decide +kernel
theorem dX9_relay_64 : decode cX9_relay 64 = .ok (.invokevirtual 191, 3) := by decide +kernel
theorem dX9_relay_67 : decode cX9_relay 67 = .ok (.iconst 0, 1) := by decide +kernel
theorem dX9_relay_68 : decode cX9_relay 68 = .ok (.istore 5, 2) := by decide +kernel
theorem dX9_relay_70 : decode cX9_relay 70 = .ok (.iload 5, 2) := by decide +kernel
theorem dX9_relay_72 : decode cX9_relay 72 = .ok (.aload_n 0, 1) := by decide +kernel
theorem dX9_relay_73 : decode cX9_relay 73 = .ok (.getfield 133, 3) := by decide +kernel
theorem dX9_relay_76 : decode cX9_relay 76 = .ok (.if_icmp .ge 118, 3) := by decide +kernel
theorem dX9_relay_79 : decode cX9_relay 79 = .ok (.iload 5, 2) := by decide +kernel
theorem dX9_relay_81 : decode cX9_relay 81 = .ok (.iload_n 1, 1) := by decide +kernel
theorem dX9_relay_82 : decode cX9_relay 82 = .ok (.if_icmp .eq 106, 3) := by decide +kernel
theorem dX9_relay_85 : decode cX9_relay 85 = .ok (.iload 5, 2) := by decide +kernel
theorem dX9_relay_87 : decode cX9_relay 87 = .ok (.iload_n 2, 1) := by decide +kernel
theorem dX9_relay_88 : decode cX9_relay 88 = .ok (.if_icmp .ne 6, 3) := by decide +kernel
theorem dX9_relay_91 : decode cX9_relay 91 = .ok (.goto 97, 3) := by decide +kernel
theorem dX9_relay_94 : decode cX9_relay 94 = .ok (.aload_n 0, 1) := by decide +kernel
theorem dX9_relay_95 : decode cX9_relay 95 = .ok (.iconst 2, 1) := by decide +kernel
theorem dX9_relay_96 : decode cX9_relay 96 = .ok (.putfield 179, 3) := by decide +kernel
theorem dX9_relay_99 : decode cX9_relay 99 = .ok (.aload_n 0, 1) := by decide +kernel
theorem dX9_relay_100 : decode cX9_relay 100 = .ok (.getfield 54, 3) := by decide +kernel
theorem dX9_relay_103 : decode cX9_relay 103 = .ok (.iconst 1, 1) := by decide +kernel
theorem dX9_relay_104 : decode cX9_relay 104 = .ok (.iload 5, 2) := by decide +kernel
theorem dX9_relay_106 : decode cX9_relay 106 = .ok (.iastore, 1) := by decide +kernel
theorem dX9_relay_107 : decode cX9_relay 107 = .ok (.aload_n 0, 1) := by decide +kernel
theorem dX9_relay_108 : decode cX9_relay 108 = .ok (.getfield 54, 3) := by decide +kernel
theorem dX9_relay_111 : decode cX9_relay 111 = .ok (.iconst 2, 1) := by decide +kernel
theorem dX9_relay_112 : decode cX9_relay 112 = .ok (.iload_n 2, 1) := by decide +kernel
theorem dX9_relay_113 : decode cX9_relay 113 = .ok (.iastore, 1) := by decide +kernel
theorem dX9_relay_114 : decode cX9_relay 114 = .ok (.aload_n 0, 1) := by decide +kernel
theorem dX9_relay_115 : decode cX9_relay 115 = .ok (.iload_n 3, 1) := by decide +kernel
theorem dX9_relay_116 : decode cX9_relay 116 = .ok (.iload 4, 2) := by decide +kernel
theorem dX9_relay_118 : decode cX9_relay 118 = .ok (.invokevirtual 191, 3) := by decide +kernel
theorem dX9_relay_121 : decode cX9_relay 121 = .ok (.iconst 0, 1) := by decide +kernel
theorem dX9_relay_122 : decode cX9_relay 122 = .ok (.istore 6, 2) := by decide +kernel
theorem dX9_relay_124 : decode cX9_relay 124 = .ok (.iload 6, 2) := by decide +kernel
theorem dX9_relay_126 : decode cX9_relay 126 = .ok (.aload_n 0, 1) := by decide +kernel
theorem dX9_relay_127 : decode cX9_relay 127 = .ok (.getfield 133, 3) := by decide +kernel
theorem dX9_relay_130 : decode cX9_relay 130 = .ok (.if_icmp .ge 58, 3) := by decide +kernel
theorem dX9_relay_133 : decode cX9_relay 133 = .ok (.iload 6, 2) := by decide +kernel
theorem dX9_relay_135 : decode cX9_relay 135 = .ok (.iload_n 1, 1) := by decide +kernel
theorem dX9_relay_136 : decode cX9_relay 136 = .ok (.if_icmp .eq 46, 3) := by decide +kernel
theorem dX9_relay_139 : decode cX9_relay 139 = .ok (.iload 6, 2) := by decide +kernel
theorem dX9_relay_141 : decode cX9_relay 141 = .ok (.iload_n 2, 1) := by decide +kernel
theorem dX9_relay_142 : decode cX9_relay 142 = .ok (.if_icmp .eq 40, 3) := by decide +kernel
theorem dX9_relay_145 : decode cX9_relay 145 = .ok (.iload 6, 2) := by decide +kernel
theorem dX9_relay_147 : decode cX9_relay 147 = .ok (.iload 5, 2) := by decide +kernel
theorem dX9_relay_149 : decode cX9_relay 149 = .ok (.if_icmp .ne 6, 3) := by decide +kernel
theorem dX9_relay_152 : decode cX9_relay 152 = .ok (.goto 30, 3) := by decide +kernel
theorem dX9_relay_155 : decode cX9_relay 155 = .ok (.aload_n 0, 1) := by decide +kernel
theorem dX9_relay_156 : decode cX9_relay 156 = .ok (.iconst 3, 1) := by decide +kernel
theorem dX9_relay_157 : decode cX9_relay 157 = .ok (.putfield 179, 3) := by decide +kernel
theorem dX9_relay_160 : decode cX9_relay 160 = .ok (.aload_n 0, 1) := by decide +kernel
theorem dX9_relay_161 : decode cX9_relay 161 = .ok (.getfield 54, 3) := by decide +kernel
theorem dX9_relay_164 : decode cX9_relay 164 = .ok (.iconst 2, 1) := by decide +kernel
theorem dX9_relay_165 : decode cX9_relay 165 = .ok (.iload 6, 2) := by decide +kernel
theorem dX9_relay_167 : decode cX9_relay 167 = .ok (.iastore, 1) := by decide +kernel
theorem dX9_relay_168 : decode cX9_relay 168 = .ok (.aload_n 0, 1) := by decide +kernel
theorem dX9_relay_169 : decode cX9_relay 169 = .ok (.getfield 54, 3) := by decide +kernel
theorem dX9_relay_172 : decode cX9_relay 172 = .ok (.iconst 3, 1) := by decide +kernel
theorem dX9_relay_173 : decode cX9_relay 173 = .ok (.iload_n 2, 1) := by decide +kernel
theorem dX9_relay_174 : decode cX9_relay 174 = .ok (.iastore, 1) := by decide +kernel
theorem dX9_relay_175 : decode cX9_relay 175 = .ok (.aload_n 0, 1) := by decide +kernel
theorem dX9_relay_176 : decode cX9_relay 176 = .ok (.iload_n 3, 1) := by decide +kernel
theorem dX9_relay_177 : decode cX9_relay 177 = .ok (.iload 4, 2) := by decide +kernel
theorem dX9_relay_179 : decode cX9_relay 179 = .ok (.invokevirtual 191, 3) := by decide +kernel
theorem dX9_relay_182 : decode cX9_relay 182 = .ok (.iinc 6 1, 3) := by decide +kernel
theorem dX9_relay_185 : decode cX9_relay 185 = .ok (.goto (-61), 3) := by decide +kernel
theorem dX9_relay_188 : decode cX9_relay 188 = .ok (.iinc 5 1, 3) := by decide +kernel
theorem dX9_relay_191 : decode cX9_relay 191 = .ok (.goto (-121), 3) := by decide +kernel
theorem dX9_relay_194 : decode cX9_relay 194 = .ok (.aload_n 0, 1) := by decide +kernel
theorem dX9_relay_195 : decode cX9_relay 195 = .ok (.getfield 170, 3) := by decide +kernel
theorem dX9_relay_198 : decode cX9_relay 198 = .ok (.ifCond .ne 10, 3) := by decide +kernel
theorem dX9_relay_201 : decode cX9_relay 201 = .ok (.aload_n 0, 1) := by decide +kernel
theorem dX9_relay_202 : decode cX9_relay 202 = .ok (.bipush 6, 2) := by decide +kernel
theorem dX9_relay_204 : decode cX9_relay 204 = .ok (.invokevirtual 139, 3) := by decide +kernel
theorem dX9_relay_207 : decode cX9_relay 207 = .ok (.ireturn, 1) := by decide +kernel
theorem dX9_relay_208 : decode cX9_relay 208 = .ok (.aload_n 0, 1) := by decide +kernel
theorem dX9_relay_209 : decode cX9_relay 209 = .ok (.aload_n 0, 1) := by decide +kernel
theorem dX9_relay_210 : decode cX9_relay 210 = .ok (.getfield 170, 3) := by decide +kernel
theorem dX9_relay_213 : decode cX9_relay 213 = .ok (.putfield 195, 3) := by decide +kernel
theorem dX9_relay_216 : decode cX9_relay 216 = .ok (.iconst 0, 1) := by decide +kernel
theorem dX9_relay_217 : decode cX9_relay 217 = .ok (.istore 5, 2) := by decide +kernel
theorem dX9_relay_219 : decode cX9_relay 219 = .ok (.iload 5, 2) := by decide +kernel
theorem dX9_relay_221 : decode cX9_relay 221 = .ok (.iconst 4, 1) := by decide +kernel
theorem dX9_relay_222 : decode cX9_relay 222 = .ok (.if_icmp .ge 23, 3) := by decide +kernel
theorem dX9_relay_225 : decode cX9_relay 225 = .ok (.aload_n 0, 1) := by decide +kernel
theorem dX9_relay_226 : decode cX9_relay 226 = .ok (.getfield 66, 3) := by decide +kernel
theorem dX9_relay_229 : decode cX9_relay 229 = .ok (.iload 5, 2) := by decide +kernel
theorem dX9_relay_231 : decode cX9_relay 231 = .ok (.aload_n 0, 1) := by decide +kernel
theorem dX9_relay_232 : decode cX9_relay 232 = .ok (.getfield 60, 3) := by decide +kernel
theorem dX9_relay_235 : decode cX9_relay 235 = .ok (.iload 5, 2) := by decide +kernel
theorem dX9_relay_237 : decode cX9_relay 237 = .ok (.iaload, 1) := by decide +kernel
theorem dX9_relay_238 : decode cX9_relay 238 = .ok (.iastore, 1) := by decide +kernel
theorem dX9_relay_239 : decode cX9_relay 239 = .ok (.iinc 5 1, 3) := by decide +kernel
theorem dX9_relay_242 : decode cX9_relay 242 = .ok (.goto (-23), 3) := by decide +kernel
theorem dX9_relay_245 : decode cX9_relay 245 = .ok (.iconst 0, 1) := by decide +kernel
theorem dX9_relay_246 : decode cX9_relay 246 = .ok (.istore 5, 2) := by decide +kernel
theorem dX9_relay_248 : decode cX9_relay 248 = .ok (.iload 5, 2) := by decide +kernel
theorem dX9_relay_250 : decode cX9_relay 250 = .ok (.iconst 3, 1) := by decide +kernel
theorem dX9_relay_251 : decode cX9_relay 251 = .ok (.if_icmp .ge 23, 3) := by decide +kernel
theorem dX9_relay_254 : decode cX9_relay 254 = .ok (.aload_n 0, 1) := by decide +kernel
theorem dX9_relay_255 : decode cX9_relay 255 = .ok (.getfield 69, 3) := by decide +kernel
theorem dX9_relay_258 : decode cX9_relay 258 = .ok (.iload 5, 2) := by decide +kernel
theorem dX9_relay_260 : decode cX9_relay 260 = .ok (.aload_n 0, 1) := by decide +kernel
theorem dX9_relay_261 : decode cX9_relay 261 = .ok (.getfield 63, 3) := by decide +kernel
theorem dX9_relay_264 : decode cX9_relay 264 = .ok (.iload 5, 2) := by decide +kernel
theorem dX9_relay_266 : decode cX9_relay 266 = .ok (.iaload, 1) := by decide +kernel
theorem dX9_relay_267 : decode cX9_relay 267 = .ok (.iastore, 1) := by decide +kernel
theorem dX9_relay_268 : decode cX9_relay 268 = .ok (.iinc 5 1, 3) := by decide +kernel
theorem dX9_relay_271 : decode cX9_relay 271 = .ok (.goto (-23), 3) := by decide +kernel
theorem dX9_relay_274 : decode cX9_relay 274 = .ok (.aload_n 0, 1) := by decide +kernel
theorem dX9_relay_275 : decode cX9_relay 275 = .ok (.aload_n 0, 1) := by decide +kernel
theorem dX9_relay_276 : decode cX9_relay 276 = .ok (.getfield 185, 3) := by decide +kernel
theorem dX9_relay_279 : decode cX9_relay 279 = .ok (.aload_n 0, 1) := by decide +kernel
theorem dX9_relay_280 : decode cX9_relay 280 = .ok (.getfield 188, 3) := by decide +kernel
theorem dX9_relay_283 : decode cX9_relay 283 = .ok (.invokevirtual 162, 3) := by decide +kernel
theorem dX9_relay_286 : decode cX9_relay 286 = .ok (.istore 5, 2) := by decide +kernel
theorem dX9_relay_288 : decode cX9_relay 288 = .ok (.aload_n 0, 1) := by decide +kernel
theorem dX9_relay_289 : decode cX9_relay 289 = .ok (.getfield 173, 3) := by decide +kernel
theorem dX9_relay_292 : decode cX9_relay 292 = .ok (.ireturn, 1) := by decide +kernel
theorem dX9_right_0 : decode cX9_right 0 = .ok (.aload_n 0, 1) := by decide +kernel
theorem dX9_right_1 : decode cX9_right 1 = .ok (.iload_n 1, 1) := by decide +kernel
theorem dX9_right_2 : decode cX9_right 2 = .ok (.invokevirtual 146, 3) := by decide +kernel
theorem dX9_right_5 : decode cX9_right 5 = .ok (.ifCond .eq 13, 3) := by decide +kernel
theorem dX9_right_8 : decode cX9_right 8 = .ok (.iload_n 2, 1) := by decide +kernel
theorem dX9_right_9 : decode cX9_right 9 = .ok (.ifCond .lt 9, 3) := by decide +kernel
theorem dX9_right_12 : decode cX9_right 12 = .ok (.iload_n 2, 1) := by decide +kernel
theorem dX9_right_13 : decode cX9_right 13 = .ok (.ldc 240, 2) := by decide +kernel
theorem dX9_right_15 : decode cX9_right 15 = .ok (.if_icmp .le 9, 3) := by decide +kernel
theorem dX9_right_18 : decode cX9_right 18 = .ok (.aload_n 0, 1) := by decide +kernel
theorem dX9_right_19 : decode cX9_right 19 = .ok (.iconst 1, 1) := by decide +kernel
theorem dX9_right_20 : decode cX9_right 20 = .ok (.invokevirtual 139, 3) := by decide +kernel
theorem dX9_right_23 : decode cX9_right 23 = .ok (.ireturn, 1) := by decide +kernel
theorem dX9_right_24 : decode cX9_right 24 = .ok (.aload_n 0, 1) := by decide +kernel
theorem dX9_right_25 : decode cX9_right 25 = .ok (.getfield 100, 3) := by decide +kernel
theorem dX9_right_28 : decode cX9_right 28 = .ok (.iload_n 1, 1) := by decide +kernel
theorem dX9_right_29 : decode cX9_right 29 = .ok (.iaload, 1) := by decide +kernel
theorem dX9_right_30 : decode cX9_right 30 = .ok (.istore_n 3, 1) := by decide +kernel
theorem dX9_right_31 : decode cX9_right 31 = .ok (.iload_n 3, 1) := by decide +kernel
theorem dX9_right_32 : decode cX9_right 32 = .ok (.ifCond .ne 10, 3) := by decide +kernel
theorem dX9_right_35 : decode cX9_right 35 = .ok (.aload_n 0, 1) := by decide +kernel
theorem dX9_right_36 : decode cX9_right 36 = .ok (.bipush 6, 2) := by decide +kernel
theorem dX9_right_38 : decode cX9_right 38 = .ok (.invokevirtual 139, 3) := by decide +kernel
theorem dX9_right_41 : decode cX9_right 41 = .ok (.ireturn, 1) := by decide +kernel
theorem dX9_right_42 : decode cX9_right 42 = .ok (.bipush 10, 2) := by decide +kernel
theorem dX9_right_44 : decode cX9_right 44 = .ok (.iload_n 1, 1) := by decide +kernel
theorem dX9_right_45 : decode cX9_right 45 = .ok (.imul, 1) := by decide +kernel
theorem dX9_right_46 : decode cX9_right 46 = .ok (.istore 4, 2) := by decide +kernel
theorem dX9_right_48 : decode cX9_right 48 = .ok (.iload 4, 2) := by decide +kernel
theorem dX9_right_50 : decode cX9_right 50 = .ok (.iload_n 3, 1) := by decide +kernel
theorem dX9_right_51 : decode cX9_right 51 = .ok (.iadd, 1) := by decide +kernel
theorem dX9_right_52 : decode cX9_right 52 = .ok (.iconst 1, 1) := by decide +kernel
theorem dX9_right_53 : decode cX9_right 53 = .ok (.isub, 1) := by decide +kernel
theorem dX9_right_54 : decode cX9_right 54 = .ok (.istore 5, 2) := by decide +kernel
theorem dX9_right_56 : decode cX9_right 56 = .ok (.iload_n 2, 1) := by decide +kernel
theorem dX9_right_57 : decode cX9_right 57 = .ok (.aload_n 0, 1) := by decide +kernel
theorem dX9_right_58 : decode cX9_right 58 = .ok (.getfield 106, 3) := by decide +kernel
theorem dX9_right_61 : decode cX9_right 61 = .ok (.iload 4, 2) := by decide +kernel
theorem dX9_right_63 : decode cX9_right 63 = .ok (.iaload, 1) := by decide +kernel
theorem dX9_right_64 : decode cX9_right 64 = .ok (.if_icmp .gt 28, 3) := by decide +kernel
theorem dX9_right_67 : decode cX9_right 67 = .ok (.aload_n 0, 1) := by decide +kernel
theorem dX9_right_68 : decode cX9_right 68 = .ok (.aload_n 0, 1) := by decide +kernel
theorem dX9_right_69 : decode cX9_right 69 = .ok (.getfield 103, 3) := by decide +kernel
theorem dX9_right_72 : decode cX9_right 72 = .ok (.iload 4, 2) := by decide +kernel
theorem dX9_right_74 : decode cX9_right 74 = .ok (.iaload, 1) := by decide +kernel
theorem dX9_right_75 : decode cX9_right 75 = .ok (.i2l, 1) := by decide +kernel
theorem dX9_right_76 : decode cX9_right 76 = .ok (.aload_n 0, 1) := by decide +kernel
theorem dX9_right_77 : decode cX9_right 77 = .ok (.getfield 106, 3) := by decide +kernel
theorem dX9_right_80 : decode cX9_right 80 = .ok (.iload 4, 2) := by decide +kernel
theorem dX9_right_82 : decode cX9_right 82 = .ok (.iaload, 1) := by decide +kernel
theorem dX9_right_83 : decode cX9_right 83 = .ok (.iload_n 2, 1) := by decide +kernel
theorem dX9_right_84 : decode cX9_right 84 = .ok (.isub, 1) := by decide +kernel
theorem dX9_right_85 : decode cX9_right 85 = .ok (.i2l, 1) := by decide +kernel
theorem dX9_right_86 : decode cX9_right 86 = .ok (.lsub, 1) := by decide +kernel
theorem dX9_right_87 : decode cX9_right 87 = .ok (.lconst 1, 1) := by decide +kernel
theorem dX9_right_88 : decode cX9_right 88 = .ok (.invokevirtual 162, 3) := by decide +kernel
theorem dX9_right_91 : decode cX9_right 91 = .ok (.ireturn, 1) := by decide +kernel
theorem dX9_right_92 : decode cX9_right 92 = .ok (.iload_n 2, 1) := by decide +kernel
theorem dX9_right_93 : decode cX9_right 93 = .ok (.aload_n 0, 1) := by decide +kernel
theorem dX9_right_94 : decode cX9_right 94 = .ok (.getfield 106, 3) := by decide +kernel
theorem dX9_right_97 : decode cX9_right 97 = .ok (.iload 5, 2) := by decide +kernel
theorem dX9_right_99 : decode cX9_right 99 = .ok (.iaload, 1) := by decide +kernel
theorem dX9_right_100 : decode cX9_right 100 = .ok (.if_icmp .lt 28, 3) := by decide +kernel
theorem dX9_right_103 : decode cX9_right 103 = .ok (.aload_n 0, 1) := by decide +kernel
theorem dX9_right_104 : decode cX9_right 104 = .ok (.aload_n 0, 1) := by decide +kernel
theorem dX9_right_105 : decode cX9_right 105 = .ok (.getfield 103, 3) := by decide +kernel
theorem dX9_right_108 : decode cX9_right 108 = .ok (.iload 5, 2) := by decide +kernel
theorem dX9_right_110 : decode cX9_right 110 = .ok (.iaload, 1) := by decide +kernel
theorem dX9_right_111 : decode cX9_right 111 = .ok (.i2l, 1) := by decide +kernel
theorem dX9_right_112 : decode cX9_right 112 = .ok (.iload_n 2, 1) := by decide +kernel
theorem dX9_right_113 : decode cX9_right 113 = .ok (.aload_n 0, 1) := by decide +kernel
theorem dX9_right_114 : decode cX9_right 114 = .ok (.getfield 106, 3) := by decide +kernel
theorem dX9_right_117 : decode cX9_right 117 = .ok (.iload 5, 2) := by decide +kernel
theorem dX9_right_119 : decode cX9_right 119 = .ok (.iaload, 1) := by decide +kernel
theorem dX9_right_120 : decode cX9_right 120 = .ok (.isub, 1) := by decide +kernel
theorem dX9_right_121 : decode cX9_right 121 = .ok (.i2l, 1) := by decide +kernel
theorem dX9_right_122 : decode cX9_right 122 = .ok (.ladd, 1) := by decide +kernel
theorem dX9_right_123 : decode cX9_right 123 = .ok (.lconst 1, 1) := by decide +kernel
theorem dX9_right_124 : decode cX9_right 124 = .ok (.invokevirtual 162, 3) := by decide +kernel
theorem dX9_right_127 : decode cX9_right 127 = .ok (.ireturn, 1) := by decide +kernel
theorem dX9_right_128 : decode cX9_right 128 = .ok (.iload 4, 2) := by decide +kernel
theorem dX9_right_130 : decode cX9_right 130 = .ok (.istore 6, 2) := by decide +kernel
theorem dX9_right_132 : decode cX9_right 132 = .ok (.aload_n 0, 1) := by decide +kernel
theorem dX9_right_133 : decode cX9_right 133 = .ok (.getfield 106, 3) := by decide +kernel
theorem dX9_right_136 : decode cX9_right 136 = .ok (.iload 6, 2) := by decide +kernel
theorem dX9_right_138 : decode cX9_right 138 = .ok (.iconst 1, 1) := by decide +kernel
theorem dX9_right_139 : decode cX9_right 139 = .ok (.iadd, 1) := by decide +kernel
theorem dX9_right_140 : decode cX9_right 140 = .ok (.iaload, 1) := by decide +kernel
theorem dX9_right_141 : decode cX9_right 141 = .ok (.iload_n 2, 1) := by decide +kernel
theorem dX9_right_142 : decode cX9_right 142 = .ok (.if_icmp .ge 9, 3) := by decide +kernel
theorem dX9_right_145 : decode cX9_right 145 = .ok (.iinc 6 1, 3) := by decide +kernel
theorem dX9_right_148 : decode cX9_right 148 = .ok (.goto (-16), 3) := by decide +kernel
theorem dX9_right_151 : decode cX9_right 151 = .ok (.aload_n 0, 1) := by decide +kernel
theorem dX9_right_152 : decode cX9_right 152 = .ok (.getfield 106, 3) := by decide +kernel
theorem dX9_right_155 : decode cX9_right 155 = .ok (.iload 6, 2) := by decide +kernel
theorem dX9_right_157 : decode cX9_right 157 = .ok (.iconst 1, 1) := by decide +kernel
theorem dX9_right_158 : decode cX9_right 158 = .ok (.iadd, 1) := by decide +kernel
theorem dX9_right_159 : decode cX9_right 159 = .ok (.iaload, 1) := by decide +kernel
theorem dX9_right_160 : decode cX9_right 160 = .ok (.aload_n 0, 1) := by decide +kernel
theorem dX9_right_161 : decode cX9_right 161 = .ok (.getfield 106, 3) := by decide +kernel
theorem dX9_right_164 : decode cX9_right 164 = .ok (.iload 6, 2) := by decide +kernel
theorem dX9_right_166 : decode cX9_right 166 = .ok (.iaload, 1) := by decide +kernel
theorem dX9_right_167 : decode cX9_right 167 = .ok (.isub, 1) := by decide +kernel
theorem dX9_right_168 : decode cX9_right 168 = .ok (.i2l, 1) := by decide +kernel
theorem dX9_right_169 : decode cX9_right 169 = .ok (.lstore 7, 2) := by decide +kernel
theorem dX9_right_171 : decode cX9_right 171 = .ok (.aload_n 0, 1) := by decide +kernel
theorem dX9_right_172 : decode cX9_right 172 = .ok (.aload_n 0, 1) := by decide +kernel
theorem dX9_right_173 : decode cX9_right 173 = .ok (.getfield 103, 3) := by decide +kernel
theorem dX9_right_176 : decode cX9_right 176 = .ok (.iload 6, 2) := by decide +kernel
theorem dX9_right_178 : decode cX9_right 178 = .ok (.iaload, 1) := by decide +kernel
theorem dX9_right_179 : decode cX9_right 179 = .ok (.i2l, 1) := by decide +kernel
theorem dX9_right_180 : decode cX9_right 180 = .ok (.lload 7, 2) := by decide +kernel
theorem dX9_right_182 : decode cX9_right 182 = .ok (.lmul, 1) := by decide +kernel
theorem dX9_right_183 : decode cX9_right 183 = .ok (.iload_n 2, 1) := by decide +kernel
theorem dX9_right_184 : decode cX9_right 184 = .ok (.aload_n 0, 1) := by decide +kernel
theorem dX9_right_185 : decode cX9_right 185 = .ok (.getfield 106, 3) := by decide +kernel
theorem dX9_right_188 : decode cX9_right 188 = .ok (.iload 6, 2) := by decide +kernel
theorem dX9_right_190 : decode cX9_right 190 = .ok (.iaload, 1) := by decide +kernel
theorem dX9_right_191 : decode cX9_right 191 = .ok (.isub, 1) := by decide +kernel
theorem dX9_right_192 : decode cX9_right 192 = .ok (.i2l, 1) := by decide +kernel
theorem dX9_right_193 : decode cX9_right 193 = .ok (.aload_n 0, 1) := by decide +kernel
theorem dX9_right_194 : decode cX9_right 194 = .ok (.getfield 103, 3) := by decide +kernel
theorem dX9_right_197 : decode cX9_right 197 = .ok (.iload 6, 2) := by decide +kernel
theorem dX9_right_199 : decode cX9_right 199 = .ok (.iconst 1, 1) := by decide +kernel
theorem dX9_right_200 : decode cX9_right 200 = .ok (.iadd, 1) := by decide +kernel
theorem dX9_right_201 : decode cX9_right 201 = .ok (.iaload, 1) := by decide +kernel
theorem dX9_right_202 : decode cX9_right 202 = .ok (.aload_n 0, 1) := by decide +kernel
theorem dX9_right_203 : decode cX9_right 203 = .ok (.getfield 103, 3) := by decide +kernel
theorem dX9_right_206 : decode cX9_right 206 = .ok (.iload 6, 2) := by decide +kernel
theorem dX9_right_208 : decode cX9_right 208 = .ok (.iaload, 1) := by decide +kernel
theorem dX9_right_209 : decode cX9_right 209 = .ok (.isub, 1) := by decide +kernel
theorem dX9_right_210 : decode cX9_right 210 = .ok (.i2l, 1) := by decide +kernel
theorem dX9_right_211 : decode cX9_right 211 = .ok (.lmul, 1) := by decide +kernel
theorem dX9_right_212 : decode cX9_right 212 = .ok (.ladd, 1) := by decide +kernel
theorem dX9_right_213 : decode cX9_right 213 = .ok (.lload 7, 2) := by decide +kernel
theorem dX9_right_215 : decode cX9_right 215 = .ok (.invokevirtual 162, 3) := by decide +kernel
theorem dX9_right_218 : decode cX9_right 218 = .ok (.ireturn, 1) := by decide +kernel
theorem dX9_road_0 : decode cX9_road 0 = .ok (.aload_n 0, 1) := by decide +kernel
theorem dX9_road_1 : decode cX9_road 1 = .ok (.iload_n 1, 1) := by decide +kernel
theorem dX9_road_2 : decode cX9_road 2 = .ok (.invokevirtual 146, 3) := by decide +kernel
theorem dX9_road_5 : decode cX9_road 5 = .ok (.ifCond .eq 16, 3) := by decide +kernel
theorem dX9_road_8 : decode cX9_road 8 = .ok (.aload_n 0, 1) := by decide +kernel
theorem dX9_road_9 : decode cX9_road 9 = .ok (.iload_n 2, 1) := by decide +kernel
theorem dX9_road_10 : decode cX9_road 10 = .ok (.invokevirtual 146, 3) := by decide +kernel
theorem dX9_road_13 : decode cX9_road 13 = .ok (.ifCond .eq 8, 3) := by decide +kernel
theorem dX9_road_16 : decode cX9_road 16 = .ok (.iload_n 1, 1) := by decide +kernel
theorem dX9_road_17 : decode cX9_road 17 = .ok (.iload_n 2, 1) := by decide +kernel
theorem dX9_road_18 : decode cX9_road 18 = .ok (.if_icmp .ne 9, 3) := by decide +kernel
theorem dX9_road_21 : decode cX9_road 21 = .ok (.aload_n 0, 1) := by decide +kernel
theorem dX9_road_22 : decode cX9_road 22 = .ok (.iconst 1, 1) := by decide +kernel
theorem dX9_road_23 : decode cX9_road 23 = .ok (.invokevirtual 120, 3) := by decide +kernel
theorem dX9_road_26 : decode cX9_road 26 = .ok (.ireturn, 1) := by decide +kernel
theorem dX9_road_27 : decode cX9_road 27 = .ok (.iload_n 3, 1) := by decide +kernel
theorem dX9_road_28 : decode cX9_road 28 = .ok (.iconst (-1), 1) := by decide +kernel
theorem dX9_road_29 : decode cX9_road 29 = .ok (.if_icmp .ne 52, 3) := by decide +kernel
theorem dX9_road_32 : decode cX9_road 32 = .ok (.aload_n 0, 1) := by decide +kernel
theorem dX9_road_33 : decode cX9_road 33 = .ok (.getfield 24, 3) := by decide +kernel
theorem dX9_road_36 : decode cX9_road 36 = .ok (.iload_n 1, 1) := by decide +kernel
theorem dX9_road_37 : decode cX9_road 37 = .ok (.iload_n 2, 1) := by decide +kernel
theorem dX9_road_38 : decode cX9_road 38 = .ok (.invokestatic 143, 3) := by decide +kernel
theorem dX9_road_41 : decode cX9_road 41 = .ok (.iaload, 1) := by decide +kernel
theorem dX9_road_42 : decode cX9_road 42 = .ok (.iconst (-1), 1) := by decide +kernel
theorem dX9_road_43 : decode cX9_road 43 = .ok (.if_icmp .ne 10, 3) := by decide +kernel
theorem dX9_road_46 : decode cX9_road 46 = .ok (.aload_n 0, 1) := by decide +kernel
theorem dX9_road_47 : decode cX9_road 47 = .ok (.bipush 6, 2) := by decide +kernel
theorem dX9_road_49 : decode cX9_road 49 = .ok (.invokevirtual 120, 3) := by decide +kernel
theorem dX9_road_52 : decode cX9_road 52 = .ok (.ireturn, 1) := by decide +kernel
theorem dX9_road_53 : decode cX9_road 53 = .ok (.aload_n 0, 1) := by decide +kernel
theorem dX9_road_54 : decode cX9_road 54 = .ok (.getfield 24, 3) := by decide +kernel
theorem dX9_road_57 : decode cX9_road 57 = .ok (.iload_n 1, 1) := by decide +kernel
theorem dX9_road_58 : decode cX9_road 58 = .ok (.iload_n 2, 1) := by decide +kernel
theorem dX9_road_59 : decode cX9_road 59 = .ok (.invokestatic 143, 3) := by decide +kernel
theorem dX9_road_62 : decode cX9_road 62 = .ok (.iconst (-1), 1) := by decide +kernel
theorem dX9_road_63 : decode cX9_road 63 = .ok (.iastore, 1) := by decide +kernel
theorem dX9_road_64 : decode cX9_road 64 = .ok (.aload_n 0, 1) := by decide +kernel
theorem dX9_road_65 : decode cX9_road 65 = .ok (.getfield 24, 3) := by decide +kernel
theorem dX9_road_68 : decode cX9_road 68 = .ok (.iload_n 2, 1) := by decide +kernel
theorem dX9_road_69 : decode cX9_road 69 = .ok (.iload_n 1, 1) := by decide +kernel
theorem dX9_road_70 : decode cX9_road 70 = .ok (.invokestatic 143, 3) := by decide +kernel
theorem dX9_road_73 : decode cX9_road 73 = .ok (.iconst (-1), 1) := by decide +kernel
theorem dX9_road_74 : decode cX9_road 74 = .ok (.iastore, 1) := by decide +kernel
theorem dX9_road_75 : decode cX9_road 75 = .ok (.aload_n 0, 1) := by decide +kernel
theorem dX9_road_76 : decode cX9_road 76 = .ok (.iconst 0, 1) := by decide +kernel
theorem dX9_road_77 : decode cX9_road 77 = .ok (.invokevirtual 120, 3) := by decide +kernel
theorem dX9_road_80 : decode cX9_road 80 = .ok (.ireturn, 1) := by decide +kernel
theorem dX9_road_81 : decode cX9_road 81 = .ok (.iload_n 3, 1) := by decide +kernel
theorem dX9_road_82 : decode cX9_road 82 = .ok (.iconst 1, 1) := by decide +kernel
theorem dX9_road_83 : decode cX9_road 83 = .ok (.if_icmp .lt 22, 3) := by decide +kernel
theorem dX9_road_86 : decode cX9_road 86 = .ok (.iload_n 3, 1) := by decide +kernel
theorem dX9_road_87 : decode cX9_road 87 = .ok (.sipush 500, 3) := by decide +kernel
theorem dX9_road_90 : decode cX9_road 90 = .ok (.if_icmp .gt 15, 3) := by decide +kernel
theorem dX9_road_93 : decode cX9_road 93 = .ok (.iload 4, 2) := by decide +kernel
theorem dX9_road_95 : decode cX9_road 95 = .ok (.ifCond .lt 10, 3) := by decide +kernel
theorem dX9_road_98 : decode cX9_road 98 = .ok (.iload 4, 2) := by decide +kernel
theorem dX9_road_100 : decode cX9_road 100 = .ok (.bipush 9, 2) := by decide +kernel
theorem dX9_road_102 : decode cX9_road 102 = .ok (.if_icmp .le 9, 3) := by decide +kernel
theorem dX9_road_105 : decode cX9_road 105 = .ok (.aload_n 0, 1) := by decide +kernel
theorem dX9_road_106 : decode cX9_road 106 = .ok (.iconst 1, 1) := by decide +kernel
theorem dX9_road_107 : decode cX9_road 107 = .ok (.invokevirtual 120, 3) := by decide +kernel
theorem dX9_road_110 : decode cX9_road 110 = .ok (.ireturn, 1) := by decide +kernel
theorem dX9_road_111 : decode cX9_road 111 = .ok (.aload_n 0, 1) := by decide +kernel
theorem dX9_road_112 : decode cX9_road 112 = .ok (.getfield 24, 3) := by decide +kernel
theorem dX9_road_115 : decode cX9_road 115 = .ok (.iload_n 1, 1) := by decide +kernel
theorem dX9_road_116 : decode cX9_road 116 = .ok (.iload_n 2, 1) := by decide +kernel
theorem dX9_road_117 : decode cX9_road 117 = .ok (.invokestatic 143, 3) := by decide +kernel
theorem dX9_road_120 : decode cX9_road 120 = .ok (.iload_n 3, 1) := by decide +kernel
theorem dX9_road_121 : decode cX9_road 121 = .ok (.iastore, 1) := by decide +kernel
theorem dX9_road_122 : decode cX9_road 122 = .ok (.aload_n 0, 1) := by decide +kernel
theorem dX9_road_123 : decode cX9_road 123 = .ok (.getfield 24, 3) := by decide +kernel
theorem dX9_road_126 : decode cX9_road 126 = .ok (.iload_n 2, 1) := by decide +kernel
theorem dX9_road_127 : decode cX9_road 127 = .ok (.iload_n 1, 1) := by decide +kernel
theorem dX9_road_128 : decode cX9_road 128 = .ok (.invokestatic 143, 3) := by decide +kernel
theorem dX9_road_131 : decode cX9_road 131 = .ok (.iload_n 3, 1) := by decide +kernel
theorem dX9_road_132 : decode cX9_road 132 = .ok (.iastore, 1) := by decide +kernel
theorem dX9_road_133 : decode cX9_road 133 = .ok (.aload_n 0, 1) := by decide +kernel
theorem dX9_road_134 : decode cX9_road 134 = .ok (.getfield 27, 3) := by decide +kernel
theorem dX9_road_137 : decode cX9_road 137 = .ok (.iload_n 1, 1) := by decide +kernel
theorem dX9_road_138 : decode cX9_road 138 = .ok (.iload_n 2, 1) := by decide +kernel
theorem dX9_road_139 : decode cX9_road 139 = .ok (.invokestatic 143, 3) := by decide +kernel
theorem dX9_road_142 : decode cX9_road 142 = .ok (.iload 4, 2) := by decide +kernel
theorem dX9_road_144 : decode cX9_road 144 = .ok (.iastore, 1) := by decide +kernel
theorem dX9_road_145 : decode cX9_road 145 = .ok (.aload_n 0, 1) := by decide +kernel
theorem dX9_road_146 : decode cX9_road 146 = .ok (.getfield 27, 3) := by decide +kernel
theorem dX9_road_149 : decode cX9_road 149 = .ok (.iload_n 2, 1) := by decide +kernel
theorem dX9_road_150 : decode cX9_road 150 = .ok (.iload_n 1, 1) := by decide +kernel
theorem dX9_road_151 : decode cX9_road 151 = .ok (.invokestatic 143, 3) := by decide +kernel
theorem dX9_road_154 : decode cX9_road 154 = .ok (.iload 4, 2) := by decide +kernel
theorem dX9_road_156 : decode cX9_road 156 = .ok (.iastore, 1) := by decide +kernel
theorem dX9_road_157 : decode cX9_road 157 = .ok (.aload_n 0, 1) := by decide +kernel
theorem dX9_road_158 : decode cX9_road 158 = .ok (.iconst 0, 1) := by decide +kernel
theorem dX9_road_159 : decode cX9_road 159 = .ok (.invokevirtual 120, 3) := by decide +kernel
theorem dX9_road_162 : decode cX9_road 162 = .ok (.ireturn, 1) := by decide +kernel
theorem dX9_send_0 : decode cX9_send 0 = .ok (.aload_n 0, 1) := by decide +kernel
theorem dX9_send_1 : decode cX9_send 1 = .ok (.iload_n 1, 1) := by decide +kernel
theorem dX9_send_2 : decode cX9_send 2 = .ok (.invokevirtual 146, 3) := by decide +kernel
theorem dX9_send_5 : decode cX9_send 5 = .ok (.ifCond .ne 9, 3) := by decide +kernel
theorem dX9_send_8 : decode cX9_send 8 = .ok (.aload_n 0, 1) := by decide +kernel
theorem dX9_send_9 : decode cX9_send 9 = .ok (.iconst 1, 1) := by decide +kernel
theorem dX9_send_10 : decode cX9_send 10 = .ok (.invokevirtual 139, 3) := by decide +kernel
theorem dX9_send_13 : decode cX9_send 13 = .ok (.ireturn, 1) := by decide +kernel
theorem dX9_send_14 : decode cX9_send 14 = .ok (.aload_n 0, 1) := by decide +kernel
theorem dX9_send_15 : decode cX9_send 15 = .ok (.iconst 0, 1) := by decide +kernel
theorem dX9_send_16 : decode cX9_send 16 = .ok (.putfield 109, 3) := by decide +kernel
theorem dX9_send_19 : decode cX9_send 19 = .ok (.aload_n 0, 1) := by decide +kernel
theorem dX9_send_20 : decode cX9_send 20 = .ok (.iload_n 1, 1) := by decide +kernel
theorem dX9_send_21 : decode cX9_send 21 = .ok (.invokevirtual 218, 3) := by decide +kernel
theorem dX9_send_24 : decode cX9_send 24 = .ok (.lstore_n 2, 1) := by decide +kernel
theorem dX9_send_25 : decode cX9_send 25 = .ok (.iconst 0, 1) := by decide +kernel
theorem dX9_send_26 : decode cX9_send 26 = .ok (.istore 4, 2) := by decide +kernel
theorem dX9_send_28 : decode cX9_send 28 = .ok (.iconst 0, 1) := by decide +kernel
theorem dX9_send_29 : decode cX9_send 29 = .ok (.istore 5, 2) := by decide +kernel
theorem dX9_send_31 : decode cX9_send 31 = .ok (.iload 5, 2) := by decide +kernel
theorem dX9_send_33 : decode cX9_send 33 = .ok (.aload_n 0, 1) := by decide +kernel
theorem dX9_send_34 : decode cX9_send 34 = .ok (.getfield 133, 3) := by decide +kernel
theorem dX9_send_37 : decode cX9_send 37 = .ok (.if_icmp .ge 95, 3) := by decide +kernel
theorem dX9_send_40 : decode cX9_send 40 = .ok (.iconst 0, 1) := by decide +kernel
theorem dX9_send_41 : decode cX9_send 41 = .ok (.istore 6, 2) := by decide +kernel
theorem dX9_send_43 : decode cX9_send 43 = .ok (.iload 6, 2) := by decide +kernel
theorem dX9_send_45 : decode cX9_send 45 = .ok (.aload_n 0, 1) := by decide +kernel
theorem dX9_send_46 : decode cX9_send 46 = .ok (.getfield 136, 3) := by decide +kernel
theorem dX9_send_49 : decode cX9_send 49 = .ok (.if_icmp .ge 77, 3) := by decide +kernel
theorem dX9_send_52 : decode cX9_send 52 = .ok (.aload_n 0, 1) := by decide +kernel
theorem dX9_send_53 : decode cX9_send 53 = .ok (.getfield 75, 3) := by decide +kernel
theorem dX9_send_56 : decode cX9_send 56 = .ok (.iload 5, 2) := by decide +kernel
theorem dX9_send_58 : decode cX9_send 58 = .ok (.iaload, 1) := by decide +kernel
theorem dX9_send_59 : decode cX9_send 59 = .ok (.ifCond .le 67, 3) := by decide +kernel
theorem dX9_send_62 : decode cX9_send 62 = .ok (.aload_n 0, 1) := by decide +kernel
theorem dX9_send_63 : decode cX9_send 63 = .ok (.getfield 39, 3) := by decide +kernel
theorem dX9_send_66 : decode cX9_send 66 = .ok (.iload 6, 2) := by decide +kernel
theorem dX9_send_68 : decode cX9_send 68 = .ok (.iaload, 1) := by decide +kernel
theorem dX9_send_69 : decode cX9_send 69 = .ok (.iload_n 1, 1) := by decide +kernel
theorem dX9_send_70 : decode cX9_send 70 = .ok (.if_icmp .ne 50, 3) := by decide +kernel
theorem dX9_send_73 : decode cX9_send 73 = .ok (.aload_n 0, 1) := by decide +kernel
theorem dX9_send_74 : decode cX9_send 74 = .ok (.getfield 45, 3) := by decide +kernel
theorem dX9_send_77 : decode cX9_send 77 = .ok (.iload 6, 2) := by decide +kernel
theorem dX9_send_79 : decode cX9_send 79 = .ok (.iaload, 1) := by decide +kernel
theorem dX9_send_80 : decode cX9_send 80 = .ok (.ifCond .ne 40, 3) := by decide +kernel
theorem dX9_send_83 : decode cX9_send 83 = .ok (.aload_n 0, 1) := by decide +kernel
theorem dX9_send_84 : decode cX9_send 84 = .ok (.getfield 42, 3) := by decide +kernel
theorem dX9_send_87 : decode cX9_send 87 = .ok (.iload 6, 2) := by decide +kernel
theorem dX9_send_89 : decode cX9_send 89 = .ok (.iaload, 1) := by decide +kernel
theorem dX9_send_90 : decode cX9_send 90 = .ok (.iload_n 1, 1) := by decide +kernel
theorem dX9_send_91 : decode cX9_send 91 = .ok (.if_icmp .eq 6, 3) := by decide +kernel
theorem dX9_send_94 : decode cX9_send 94 = .ok (.goto 26, 3) := by decide +kernel
theorem dX9_send_97 : decode cX9_send 97 = .ok (.aload_n 0, 1) := by decide +kernel
theorem dX9_send_98 : decode cX9_send 98 = .ok (.getfield 42, 3) := by decide +kernel
theorem dX9_send_101 : decode cX9_send 101 = .ok (.iload 6, 2) := by decide +kernel
theorem dX9_send_103 : decode cX9_send 103 = .ok (.iload 5, 2) := by decide +kernel
theorem dX9_send_105 : decode cX9_send 105 = .ok (.iastore, 1) := by decide +kernel
theorem dX9_send_106 : decode cX9_send 106 = .ok (.aload_n 0, 1) := by decide +kernel
theorem dX9_send_107 : decode cX9_send 107 = .ok (.getfield 75, 3) := by decide +kernel
theorem dX9_send_110 : decode cX9_send 110 = .ok (.iload 5, 2) := by decide +kernel
theorem dX9_send_112 : decode cX9_send 112 = .ok (.dup2, 1) := by decide +kernel
theorem dX9_send_113 : decode cX9_send 113 = .ok (.iaload, 1) := by decide +kernel
theorem dX9_send_114 : decode cX9_send 114 = .ok (.iconst 1, 1) := by decide +kernel
theorem dX9_send_115 : decode cX9_send 115 = .ok (.isub, 1) := by decide +kernel
theorem dX9_send_116 : decode cX9_send 116 = .ok (.iastore, 1) := by decide +kernel
theorem dX9_send_117 : decode cX9_send 117 = .ok (.iinc 4 1, 3) := by decide +kernel
theorem dX9_send_120 : decode cX9_send 120 = .ok (.iinc 6 1, 3) := by decide +kernel
theorem dX9_send_123 : decode cX9_send 123 = .ok (.goto (-80), 3) := by decide +kernel
theorem dX9_send_126 : decode cX9_send 126 = .ok (.iinc 5 1, 3) := by decide +kernel
theorem dX9_send_129 : decode cX9_send 129 = .ok (.goto (-98), 3) := by decide +kernel
theorem dX9_send_132 : decode cX9_send 132 = .ok (.iload 4, 2) := by decide +kernel
theorem dX9_send_134 : decode cX9_send 134 = .ok (.ireturn, 1) := by decide +kernel
theorem dX9_status_0 : decode cX9_status 0 = .ok (.aload_n 0, 1) := by decide +kernel
theorem dX9_status_1 : decode cX9_status 1 = .ok (.getfield 109, 3) := by decide +kernel
theorem dX9_status_4 : decode cX9_status 4 = .ok (.ireturn, 1) := by decide +kernel
theorem dX9_sure_0 : decode cX9_sure 0 = .ok (.iload_n 3, 1) := by decide +kernel
theorem dX9_sure_1 : decode cX9_sure 1 = .ok (.iconst 1, 1) := by decide +kernel
theorem dX9_sure_2 : decode cX9_sure 2 = .ok (.if_icmp .lt 8, 3) := by decide +kernel
theorem dX9_sure_5 : decode cX9_sure 5 = .ok (.iload_n 3, 1) := by decide +kernel
theorem dX9_sure_6 : decode cX9_sure 6 = .ok (.iconst 4, 1) := by decide +kernel
theorem dX9_sure_7 : decode cX9_sure 7 = .ok (.if_icmp .le 7, 3) := by decide +kernel
theorem dX9_sure_10 : decode cX9_sure 10 = .ok (.iconst 1, 1) := by decide +kernel
theorem dX9_sure_11 : decode cX9_sure 11 = .ok (.goto 9, 3) := by decide +kernel
theorem dX9_sure_14 : decode cX9_sure 14 = .ok (.aload_n 0, 1) := by decide +kernel
theorem dX9_sure_15 : decode cX9_sure 15 = .ok (.iload_n 1, 1) := by decide +kernel
theorem dX9_sure_16 : decode cX9_sure 16 = .ok (.iload_n 2, 1) := by decide +kernel
theorem dX9_sure_17 : decode cX9_sure 17 = .ok (.invokevirtual 155, 3) := by decide +kernel
theorem dX9_sure_20 : decode cX9_sure 20 = .ok (.istore 4, 2) := by decide +kernel
theorem dX9_sure_22 : decode cX9_sure 22 = .ok (.iload 4, 2) := by decide +kernel
theorem dX9_sure_24 : decode cX9_sure 24 = .ok (.ifCond .le 10, 3) := by decide +kernel
theorem dX9_sure_27 : decode cX9_sure 27 = .ok (.aload_n 0, 1) := by decide +kernel
theorem dX9_sure_28 : decode cX9_sure 28 = .ok (.iload 4, 2) := by decide +kernel
theorem dX9_sure_30 : decode cX9_sure 30 = .ok (.invokevirtual 139, 3) := by decide +kernel
theorem dX9_sure_33 : decode cX9_sure 33 = .ok (.ireturn, 1) := by decide +kernel
theorem dX9_sure_34 : decode cX9_sure 34 = .ok (.aload_n 0, 1) := by decide +kernel
theorem dX9_sure_35 : decode cX9_sure 35 = .ok (.bipush 10, 2) := by decide +kernel
theorem dX9_sure_37 : decode cX9_sure 37 = .ok (.iload_n 3, 1) := by decide +kernel
theorem dX9_sure_38 : decode cX9_sure 38 = .ok (.invokestatic 158, 3) := by decide +kernel
theorem dX9_sure_41 : decode cX9_sure 41 = .ok (.aload_n 0, 1) := by decide +kernel
theorem dX9_sure_42 : decode cX9_sure 42 = .ok (.getfield 27, 3) := by decide +kernel
theorem dX9_sure_45 : decode cX9_sure 45 = .ok (.iload_n 1, 1) := by decide +kernel
theorem dX9_sure_46 : decode cX9_sure 46 = .ok (.iload_n 2, 1) := by decide +kernel
theorem dX9_sure_47 : decode cX9_sure 47 = .ok (.invokestatic 143, 3) := by decide +kernel
theorem dX9_sure_50 : decode cX9_sure 50 = .ok (.iaload, 1) := by decide +kernel
theorem dX9_sure_51 : decode cX9_sure 51 = .ok (.iload_n 3, 1) := by decide +kernel
theorem dX9_sure_52 : decode cX9_sure 52 = .ok (.invokestatic 158, 3) := by decide +kernel
theorem dX9_sure_55 : decode cX9_sure 55 = .ok (.lsub, 1) := by decide +kernel
theorem dX9_sure_56 : decode cX9_sure 56 = .ok (.bipush 10, 2) := by decide +kernel
theorem dX9_sure_58 : decode cX9_sure 58 = .ok (.iload_n 3, 1) := by decide +kernel
theorem dX9_sure_59 : decode cX9_sure 59 = .ok (.invokestatic 158, 3) := by decide +kernel
theorem dX9_sure_62 : decode cX9_sure 62 = .ok (.invokevirtual 162, 3) := by decide +kernel
theorem dX9_sure_65 : decode cX9_sure 65 = .ok (.ireturn, 1) := by decide +kernel
theorem dX9_tells_0 : decode cX9_tells 0 = .ok (.lload_n 1, 1) := by decide +kernel
theorem dX9_tells_1 : decode cX9_tells 1 = .ok (.lconst 0, 1) := by decide +kernel
theorem dX9_tells_2 : decode cX9_tells 2 = .ok (.lcmp, 1) := by decide +kernel
theorem dX9_tells_3 : decode cX9_tells 3 = .ok (.ifCond .ge 8, 3) := by decide +kernel
theorem dX9_tells_6 : decode cX9_tells 6 = .ok (.lload_n 1, 1) := by decide +kernel
theorem dX9_tells_7 : decode cX9_tells 7 = .ok (.lneg, 1) := by decide +kernel
theorem dX9_tells_8 : decode cX9_tells 8 = .ok (.goto 4, 3) := by decide +kernel
theorem dX9_tells_11 : decode cX9_tells 11 = .ok (.lload_n 1, 1) := by decide +kernel
theorem dX9_tells_12 : decode cX9_tells 12 = .ok (.lstore 5, 2) := by decide +kernel
theorem dX9_tells_14 : decode cX9_tells 14 = .ok (.lload_n 3, 1) := by decide +kernel
theorem dX9_tells_15 : decode cX9_tells 15 = .ok (.lstore 7, 2) := by decide +kernel
theorem dX9_tells_17 : decode cX9_tells 17 = .ok (.lload 7, 2) := by decide +kernel
theorem dX9_tells_19 : decode cX9_tells 19 = .ok (.lconst 0, 1) := by decide +kernel
theorem dX9_tells_20 : decode cX9_tells 20 = .ok (.lcmp, 1) := by decide +kernel
theorem dX9_tells_21 : decode cX9_tells 21 = .ok (.ifCond .eq 21, 3) := by decide +kernel
theorem dX9_tells_24 : decode cX9_tells 24 = .ok (.lload 5, 2) := by decide +kernel
theorem dX9_tells_26 : decode cX9_tells 26 = .ok (.lload 7, 2) := by decide +kernel
theorem dX9_tells_28 : decode cX9_tells 28 = .ok (.lrem, 1) := by decide +kernel
theorem dX9_tells_29 : decode cX9_tells 29 = .ok (.lstore 9, 2) := by decide +kernel
theorem dX9_tells_31 : decode cX9_tells 31 = .ok (.lload 7, 2) := by decide +kernel
theorem dX9_tells_33 : decode cX9_tells 33 = .ok (.lstore 5, 2) := by decide +kernel
theorem dX9_tells_35 : decode cX9_tells 35 = .ok (.lload 9, 2) := by decide +kernel
theorem dX9_tells_37 : decode cX9_tells 37 = .ok (.lstore 7, 2) := by decide +kernel
theorem dX9_tells_39 : decode cX9_tells 39 = .ok (.goto (-22), 3) := by decide +kernel
theorem dX9_tells_42 : decode cX9_tells 42 = .ok (.aload_n 0, 1) := by decide +kernel
theorem dX9_tells_43 : decode cX9_tells 43 = .ok (.lload_n 1, 1) := by decide +kernel
theorem dX9_tells_44 : decode cX9_tells 44 = .ok (.lload 5, 2) := by decide +kernel
theorem dX9_tells_46 : decode cX9_tells 46 = .ok (.ldiv, 1) := by decide +kernel
theorem dX9_tells_47 : decode cX9_tells 47 = .ok (.putfield 113, 3) := by decide +kernel
theorem dX9_tells_50 : decode cX9_tells 50 = .ok (.aload_n 0, 1) := by decide +kernel
theorem dX9_tells_51 : decode cX9_tells 51 = .ok (.lload_n 3, 1) := by decide +kernel
theorem dX9_tells_52 : decode cX9_tells 52 = .ok (.lload 5, 2) := by decide +kernel
theorem dX9_tells_54 : decode cX9_tells 54 = .ok (.ldiv, 1) := by decide +kernel
theorem dX9_tells_55 : decode cX9_tells 55 = .ok (.putfield 7, 3) := by decide +kernel
theorem dX9_tells_58 : decode cX9_tells 58 = .ok (.aload_n 0, 1) := by decide +kernel
theorem dX9_tells_59 : decode cX9_tells 59 = .ok (.iconst 0, 1) := by decide +kernel
theorem dX9_tells_60 : decode cX9_tells 60 = .ok (.putfield 109, 3) := by decide +kernel
theorem dX9_tells_63 : decode cX9_tells 63 = .ok (.lload_n 1, 1) := by decide +kernel
theorem dX9_tells_64 : decode cX9_tells 64 = .ok (.lconst 0, 1) := by decide +kernel
theorem dX9_tells_65 : decode cX9_tells 65 = .ok (.lcmp, 1) := by decide +kernel
theorem dX9_tells_66 : decode cX9_tells 66 = .ok (.ifCond .le 7, 3) := by decide +kernel
theorem dX9_tells_69 : decode cX9_tells 69 = .ok (.iconst 1, 1) := by decide +kernel
theorem dX9_tells_70 : decode cX9_tells 70 = .ok (.goto 14, 3) := by decide +kernel
theorem dX9_tells_73 : decode cX9_tells 73 = .ok (.lload_n 1, 1) := by decide +kernel
theorem dX9_tells_74 : decode cX9_tells 74 = .ok (.lconst 0, 1) := by decide +kernel
theorem dX9_tells_75 : decode cX9_tells 75 = .ok (.lcmp, 1) := by decide +kernel
theorem dX9_tells_76 : decode cX9_tells 76 = .ok (.ifCond .ge 7, 3) := by decide +kernel
theorem dX9_tells_79 : decode cX9_tells 79 = .ok (.iconst (-1), 1) := by decide +kernel
theorem dX9_tells_80 : decode cX9_tells 80 = .ok (.goto 4, 3) := by decide +kernel
theorem dX9_tells_83 : decode cX9_tells 83 = .ok (.iconst 0, 1) := by decide +kernel
theorem dX9_tells_84 : decode cX9_tells 84 = .ok (.ireturn, 1) := by decide +kernel
theorem dX9_told_0 : decode cX9_told 0 = .ok (.aload_n 0, 1) := by decide +kernel
theorem dX9_told_1 : decode cX9_told 1 = .ok (.iload_n 1, 1) := by decide +kernel
theorem dX9_told_2 : decode cX9_told 2 = .ok (.invokevirtual 149, 3) := by decide +kernel
theorem dX9_told_5 : decode cX9_told 5 = .ok (.ifCond .eq 12, 3) := by decide +kernel
theorem dX9_told_8 : decode cX9_told 8 = .ok (.iload_n 2, 1) := by decide +kernel
theorem dX9_told_9 : decode cX9_told 9 = .ok (.ifCond .lt 8, 3) := by decide +kernel
theorem dX9_told_12 : decode cX9_told 12 = .ok (.iload_n 2, 1) := by decide +kernel
theorem dX9_told_13 : decode cX9_told 13 = .ok (.iconst 4, 1) := by decide +kernel
theorem dX9_told_14 : decode cX9_told 14 = .ok (.if_icmp .le 9, 3) := by decide +kernel
theorem dX9_told_17 : decode cX9_told 17 = .ok (.aload_n 0, 1) := by decide +kernel
theorem dX9_told_18 : decode cX9_told 18 = .ok (.iconst 1, 1) := by decide +kernel
theorem dX9_told_19 : decode cX9_told 19 = .ok (.invokevirtual 139, 3) := by decide +kernel
theorem dX9_told_22 : decode cX9_told 22 = .ok (.ireturn, 1) := by decide +kernel
theorem dX9_told_23 : decode cX9_told 23 = .ok (.aload_n 0, 1) := by decide +kernel
theorem dX9_told_24 : decode cX9_told 24 = .ok (.iconst 0, 1) := by decide +kernel
theorem dX9_told_25 : decode cX9_told 25 = .ok (.putfield 109, 3) := by decide +kernel
theorem dX9_told_28 : decode cX9_told 28 = .ok (.iload_n 2, 1) := by decide +kernel
theorem dX9_told_29 : decode cX9_told 29 = .ok (.tableswitch 72 0 3 #[31, 38, 58, 65], 31) := by decide +kernel
theorem dX9_told_60 : decode cX9_told 60 = .ok (.aload_n 0, 1) := by decide +kernel
theorem dX9_told_61 : decode cX9_told 61 = .ok (.getfield 39, 3) := by decide +kernel
theorem dX9_told_64 : decode cX9_told 64 = .ok (.iload_n 1, 1) := by decide +kernel
theorem dX9_told_65 : decode cX9_told 65 = .ok (.iaload, 1) := by decide +kernel
theorem dX9_told_66 : decode cX9_told 66 = .ok (.ireturn, 1) := by decide +kernel
theorem dX9_told_67 : decode cX9_told 67 = .ok (.aload_n 0, 1) := by decide +kernel
theorem dX9_told_68 : decode cX9_told 68 = .ok (.getfield 45, 3) := by decide +kernel
theorem dX9_told_71 : decode cX9_told 71 = .ok (.iload_n 1, 1) := by decide +kernel
theorem dX9_told_72 : decode cX9_told 72 = .ok (.iaload, 1) := by decide +kernel
theorem dX9_told_73 : decode cX9_told 73 = .ok (.ifCond .ne 12, 3) := by decide +kernel
theorem dX9_told_76 : decode cX9_told 76 = .ok (.aload_n 0, 1) := by decide +kernel
theorem dX9_told_77 : decode cX9_told 77 = .ok (.getfield 42, 3) := by decide +kernel
theorem dX9_told_80 : decode cX9_told 80 = .ok (.iload_n 1, 1) := by decide +kernel
theorem dX9_told_81 : decode cX9_told 81 = .ok (.iaload, 1) := by decide +kernel
theorem dX9_told_82 : decode cX9_told 82 = .ok (.goto 4, 3) := by decide +kernel
theorem dX9_told_85 : decode cX9_told 85 = .ok (.iconst (-1), 1) := by decide +kernel
theorem dX9_told_86 : decode cX9_told 86 = .ok (.ireturn, 1) := by decide +kernel
theorem dX9_told_87 : decode cX9_told 87 = .ok (.aload_n 0, 1) := by decide +kernel
theorem dX9_told_88 : decode cX9_told 88 = .ok (.getfield 45, 3) := by decide +kernel
theorem dX9_told_91 : decode cX9_told 91 = .ok (.iload_n 1, 1) := by decide +kernel
theorem dX9_told_92 : decode cX9_told 92 = .ok (.iaload, 1) := by decide +kernel
theorem dX9_told_93 : decode cX9_told 93 = .ok (.ireturn, 1) := by decide +kernel
theorem dX9_told_94 : decode cX9_told 94 = .ok (.aload_n 0, 1) := by decide +kernel
theorem dX9_told_95 : decode cX9_told 95 = .ok (.getfield 48, 3) := by decide +kernel
theorem dX9_told_98 : decode cX9_told 98 = .ok (.iload_n 1, 1) := by decide +kernel
theorem dX9_told_99 : decode cX9_told 99 = .ok (.iaload, 1) := by decide +kernel
theorem dX9_told_100 : decode cX9_told 100 = .ok (.ireturn, 1) := by decide +kernel
theorem dX9_told_101 : decode cX9_told 101 = .ok (.aload_n 0, 1) := by decide +kernel
theorem dX9_told_102 : decode cX9_told 102 = .ok (.getfield 45, 3) := by decide +kernel
theorem dX9_told_105 : decode cX9_told 105 = .ok (.iload_n 1, 1) := by decide +kernel
theorem dX9_told_106 : decode cX9_told 106 = .ok (.iaload, 1) := by decide +kernel
theorem dX9_told_107 : decode cX9_told 107 = .ok (.iconst 1, 1) := by decide +kernel
theorem dX9_told_108 : decode cX9_told 108 = .ok (.if_icmp .ne 12, 3) := by decide +kernel
theorem dX9_told_111 : decode cX9_told 111 = .ok (.aload_n 0, 1) := by decide +kernel
theorem dX9_told_112 : decode cX9_told 112 = .ok (.getfield 51, 3) := by decide +kernel
theorem dX9_told_115 : decode cX9_told 115 = .ok (.iload_n 1, 1) := by decide +kernel
theorem dX9_told_116 : decode cX9_told 116 = .ok (.iaload, 1) := by decide +kernel
theorem dX9_told_117 : decode cX9_told 117 = .ok (.goto 4, 3) := by decide +kernel
theorem dX9_told_120 : decode cX9_told 120 = .ok (.iconst (-1), 1) := by decide +kernel
theorem dX9_told_121 : decode cX9_told 121 = .ok (.ireturn, 1) := by decide +kernel
theorem dX9_top_0 : decode cX9_top 0 = .ok (.aload_n 0, 1) := by decide +kernel
theorem dX9_top_1 : decode cX9_top 1 = .ok (.getfield 113, 3) := by decide +kernel
theorem dX9_top_4 : decode cX9_top 4 = .ok (.lreturn, 1) := by decide +kernel
theorem dX9_town_0 : decode cX9_town 0 = .ok (.aload_n 0, 1) := by decide +kernel
theorem dX9_town_1 : decode cX9_town 1 = .ok (.getfield 133, 3) := by decide +kernel
theorem dX9_town_4 : decode cX9_town 4 = .ok (.bipush 10, 2) := by decide +kernel
theorem dX9_town_6 : decode cX9_town 6 = .ok (.if_icmp .ne 9, 3) := by decide +kernel
theorem dX9_town_9 : decode cX9_town 9 = .ok (.aload_n 0, 1) := by decide +kernel
theorem dX9_town_10 : decode cX9_town 10 = .ok (.iconst 5, 1) := by decide +kernel
theorem dX9_town_11 : decode cX9_town 11 = .ok (.invokevirtual 139, 3) := by decide +kernel
theorem dX9_town_14 : decode cX9_town 14 = .ok (.ireturn, 1) := by decide +kernel
theorem dX9_town_15 : decode cX9_town 15 = .ok (.iconst 0, 1) := by decide +kernel
theorem dX9_town_16 : decode cX9_town 16 = .ok (.istore_n 1, 1) := by decide +kernel
theorem dX9_town_17 : decode cX9_town 17 = .ok (.iload_n 1, 1) := by decide +kernel
theorem dX9_town_18 : decode cX9_town 18 = .ok (.bipush 10, 2) := by decide +kernel
theorem dX9_town_20 : decode cX9_town 20 = .ok (.if_icmp .ge 67, 3) := by decide +kernel
theorem dX9_town_23 : decode cX9_town 23 = .ok (.aload_n 0, 1) := by decide +kernel
theorem dX9_town_24 : decode cX9_town 24 = .ok (.getfield 24, 3) := by decide +kernel
theorem dX9_town_27 : decode cX9_town 27 = .ok (.aload_n 0, 1) := by decide +kernel
theorem dX9_town_28 : decode cX9_town 28 = .ok (.getfield 133, 3) := by decide +kernel
theorem dX9_town_31 : decode cX9_town 31 = .ok (.iload_n 1, 1) := by decide +kernel
theorem dX9_town_32 : decode cX9_town 32 = .ok (.invokestatic 143, 3) := by decide +kernel
theorem dX9_town_35 : decode cX9_town 35 = .ok (.iconst (-1), 1) := by decide +kernel
theorem dX9_town_36 : decode cX9_town 36 = .ok (.iastore, 1) := by decide +kernel
theorem dX9_town_37 : decode cX9_town 37 = .ok (.aload_n 0, 1) := by decide +kernel
theorem dX9_town_38 : decode cX9_town 38 = .ok (.getfield 24, 3) := by decide +kernel
theorem dX9_town_41 : decode cX9_town 41 = .ok (.iload_n 1, 1) := by decide +kernel
theorem dX9_town_42 : decode cX9_town 42 = .ok (.aload_n 0, 1) := by decide +kernel
theorem dX9_town_43 : decode cX9_town 43 = .ok (.getfield 133, 3) := by decide +kernel
theorem dX9_town_46 : decode cX9_town 46 = .ok (.invokestatic 143, 3) := by decide +kernel
theorem dX9_town_49 : decode cX9_town 49 = .ok (.iconst (-1), 1) := by decide +kernel
theorem dX9_town_50 : decode cX9_town 50 = .ok (.iastore, 1) := by decide +kernel
theorem dX9_town_51 : decode cX9_town 51 = .ok (.aload_n 0, 1) := by decide +kernel
theorem dX9_town_52 : decode cX9_town 52 = .ok (.getfield 30, 3) := by decide +kernel
theorem dX9_town_55 : decode cX9_town 55 = .ok (.aload_n 0, 1) := by decide +kernel
theorem dX9_town_56 : decode cX9_town 56 = .ok (.getfield 133, 3) := by decide +kernel
theorem dX9_town_59 : decode cX9_town 59 = .ok (.iload_n 1, 1) := by decide +kernel
theorem dX9_town_60 : decode cX9_town 60 = .ok (.invokestatic 143, 3) := by decide +kernel
theorem dX9_town_63 : decode cX9_town 63 = .ok (.bipush 10, 2) := by decide +kernel
theorem dX9_town_65 : decode cX9_town 65 = .ok (.iastore, 1) := by decide +kernel
theorem dX9_town_66 : decode cX9_town 66 = .ok (.aload_n 0, 1) := by decide +kernel
theorem dX9_town_67 : decode cX9_town 67 = .ok (.getfield 30, 3) := by decide +kernel
theorem dX9_town_70 : decode cX9_town 70 = .ok (.iload_n 1, 1) := by decide +kernel
theorem dX9_town_71 : decode cX9_town 71 = .ok (.aload_n 0, 1) := by decide +kernel
theorem dX9_town_72 : decode cX9_town 72 = .ok (.getfield 133, 3) := by decide +kernel
theorem dX9_town_75 : decode cX9_town 75 = .ok (.invokestatic 143, 3) := by decide +kernel
theorem dX9_town_78 : decode cX9_town 78 = .ok (.bipush 10, 2) := by decide +kernel
theorem dX9_town_80 : decode cX9_town 80 = .ok (.iastore, 1) := by decide +kernel
theorem dX9_town_81 : decode cX9_town 81 = .ok (.iinc 1 1, 3) := by decide +kernel
theorem dX9_town_84 : decode cX9_town 84 = .ok (.goto (-67), 3) := by decide +kernel
theorem dX9_town_87 : decode cX9_town 87 = .ok (.aload_n 0, 1) := by decide +kernel
theorem dX9_town_88 : decode cX9_town 88 = .ok (.dup, 1) := by decide +kernel
theorem dX9_town_89 : decode cX9_town 89 = .ok (.getfield 133, 3) := by decide +kernel
theorem dX9_town_92 : decode cX9_town 92 = .ok (.iconst 1, 1) := by decide +kernel
theorem dX9_town_93 : decode cX9_town 93 = .ok (.iadd, 1) := by decide +kernel
theorem dX9_town_94 : decode cX9_town 94 = .ok (.putfield 133, 3) := by decide +kernel
theorem dX9_town_97 : decode cX9_town 97 = .ok (.aload_n 0, 1) := by decide +kernel
theorem dX9_town_98 : decode cX9_town 98 = .ok (.iconst 0, 1) := by decide +kernel
theorem dX9_town_99 : decode cX9_town 99 = .ok (.putfield 109, 3) := by decide +kernel
theorem dX9_town_102 : decode cX9_town 102 = .ok (.aload_n 0, 1) := by decide +kernel
theorem dX9_town_103 : decode cX9_town 103 = .ok (.getfield 133, 3) := by decide +kernel
theorem dX9_town_106 : decode cX9_town 106 = .ok (.iconst 1, 1) := by decide +kernel
theorem dX9_town_107 : decode cX9_town 107 = .ok (.isub, 1) := by decide +kernel
theorem dX9_town_108 : decode cX9_town 108 = .ok (.ireturn, 1) := by decide +kernel
theorem dX9_tray_0 : decode cX9_tray 0 = .ok (.iload_n 1, 1) := by decide +kernel
theorem dX9_tray_1 : decode cX9_tray 1 = .ok (.invokestatic 116, 3) := by decide +kernel
theorem dX9_tray_4 : decode cX9_tray 4 = .ok (.ifCond .eq 22, 3) := by decide +kernel
theorem dX9_tray_7 : decode cX9_tray 7 = .ok (.iload_n 2, 1) := by decide +kernel
theorem dX9_tray_8 : decode cX9_tray 8 = .ok (.ifCond .lt 18, 3) := by decide +kernel
theorem dX9_tray_11 : decode cX9_tray 11 = .ok (.iload_n 2, 1) := by decide +kernel
theorem dX9_tray_12 : decode cX9_tray 12 = .ok (.iconst 3, 1) := by decide +kernel
theorem dX9_tray_13 : decode cX9_tray 13 = .ok (.if_icmp .gt 13, 3) := by decide +kernel
theorem dX9_tray_16 : decode cX9_tray 16 = .ok (.iload_n 3, 1) := by decide +kernel
theorem dX9_tray_17 : decode cX9_tray 17 = .ok (.ifCond .lt 9, 3) := by decide +kernel
theorem dX9_tray_20 : decode cX9_tray 20 = .ok (.iload_n 3, 1) := by decide +kernel
theorem dX9_tray_21 : decode cX9_tray 21 = .ok (.bipush 60, 2) := by decide +kernel
theorem dX9_tray_23 : decode cX9_tray 23 = .ok (.if_icmp .le 9, 3) := by decide +kernel
theorem dX9_tray_26 : decode cX9_tray 26 = .ok (.aload_n 0, 1) := by decide +kernel
theorem dX9_tray_27 : decode cX9_tray 27 = .ok (.iconst 1, 1) := by decide +kernel
theorem dX9_tray_28 : decode cX9_tray 28 = .ok (.invokevirtual 120, 3) := by decide +kernel
theorem dX9_tray_31 : decode cX9_tray 31 = .ok (.ireturn, 1) := by decide +kernel
theorem dX9_tray_32 : decode cX9_tray 32 = .ok (.aload_n 0, 1) := by decide +kernel
theorem dX9_tray_33 : decode cX9_tray 33 = .ok (.getfield 13, 3) := by decide +kernel
theorem dX9_tray_36 : decode cX9_tray 36 = .ok (.iload_n 1, 1) := by decide +kernel
theorem dX9_tray_37 : decode cX9_tray 37 = .ok (.iload_n 2, 1) := by decide +kernel
theorem dX9_tray_38 : decode cX9_tray 38 = .ok (.iastore, 1) := by decide +kernel
theorem dX9_tray_39 : decode cX9_tray 39 = .ok (.aload_n 0, 1) := by decide +kernel
theorem dX9_tray_40 : decode cX9_tray 40 = .ok (.getfield 17, 3) := by decide +kernel
theorem dX9_tray_43 : decode cX9_tray 43 = .ok (.iload_n 1, 1) := by decide +kernel
theorem dX9_tray_44 : decode cX9_tray 44 = .ok (.iload_n 3, 1) := by decide +kernel
theorem dX9_tray_45 : decode cX9_tray 45 = .ok (.iastore, 1) := by decide +kernel
theorem dX9_tray_46 : decode cX9_tray 46 = .ok (.iconst 0, 1) := by decide +kernel
theorem dX9_tray_47 : decode cX9_tray 47 = .ok (.istore 4, 2) := by decide +kernel
theorem dX9_tray_49 : decode cX9_tray 49 = .ok (.iload 4, 2) := by decide +kernel
theorem dX9_tray_51 : decode cX9_tray 51 = .ok (.iload_n 3, 1) := by decide +kernel
theorem dX9_tray_52 : decode cX9_tray 52 = .ok (.if_icmp .ge 22, 3) := by decide +kernel
theorem dX9_tray_55 : decode cX9_tray 55 = .ok (.aload_n 0, 1) := by decide +kernel
theorem dX9_tray_56 : decode cX9_tray 56 = .ok (.getfield 20, 3) := by decide +kernel
theorem dX9_tray_59 : decode cX9_tray 59 = .ok (.bipush 60, 2) := by decide +kernel
theorem dX9_tray_61 : decode cX9_tray 61 = .ok (.iload_n 1, 1) := by decide +kernel
theorem dX9_tray_62 : decode cX9_tray 62 = .ok (.imul, 1) := by decide +kernel
theorem dX9_tray_63 : decode cX9_tray 63 = .ok (.iload 4, 2) := by decide +kernel
theorem dX9_tray_65 : decode cX9_tray 65 = .ok (.iadd, 1) := by decide +kernel
theorem dX9_tray_66 : decode cX9_tray 66 = .ok (.lconst 0, 1) := by decide +kernel
theorem dX9_tray_67 : decode cX9_tray 67 = .ok (.lastore, 1) := by decide +kernel
theorem dX9_tray_68 : decode cX9_tray 68 = .ok (.iinc 4 1, 3) := by decide +kernel
theorem dX9_tray_71 : decode cX9_tray 71 = .ok (.goto (-22), 3) := by decide +kernel
theorem dX9_tray_74 : decode cX9_tray 74 = .ok (.aload_n 0, 1) := by decide +kernel
theorem dX9_tray_75 : decode cX9_tray 75 = .ok (.iconst 0, 1) := by decide +kernel
theorem dX9_tray_76 : decode cX9_tray 76 = .ok (.invokevirtual 120, 3) := by decide +kernel
theorem dX9_tray_79 : decode cX9_tray 79 = .ok (.ireturn, 1) := by decide +kernel
theorem dX9_tryWay_0 : decode cX9_tryWay 0 = .ok (.iconst 0, 1) := by decide +kernel
theorem dX9_tryWay_1 : decode cX9_tryWay 1 = .ok (.istore_n 3, 1) := by decide +kernel
theorem dX9_tryWay_2 : decode cX9_tryWay 2 = .ok (.iconst 0, 1) := by decide +kernel
theorem dX9_tryWay_3 : decode cX9_tryWay 3 = .ok (.istore 4, 2) := by decide +kernel
theorem dX9_tryWay_5 : decode cX9_tryWay 5 = .ok (.iload 4, 2) := by decide +kernel
theorem dX9_tryWay_7 : decode cX9_tryWay 7 = .ok (.aload_n 0, 1) := by decide +kernel
theorem dX9_tryWay_8 : decode cX9_tryWay 8 = .ok (.getfield 179, 3) := by decide +kernel
theorem dX9_tryWay_11 : decode cX9_tryWay 11 = .ok (.if_icmp .ge 65, 3) := by decide +kernel
theorem dX9_tryWay_14 : decode cX9_tryWay 14 = .ok (.aload_n 0, 1) := by decide +kernel
theorem dX9_tryWay_15 : decode cX9_tryWay 15 = .ok (.getfield 24, 3) := by decide +kernel
theorem dX9_tryWay_18 : decode cX9_tryWay 18 = .ok (.aload_n 0, 1) := by decide +kernel
theorem dX9_tryWay_19 : decode cX9_tryWay 19 = .ok (.getfield 54, 3) := by decide +kernel
theorem dX9_tryWay_22 : decode cX9_tryWay 22 = .ok (.iload 4, 2) := by decide +kernel
theorem dX9_tryWay_24 : decode cX9_tryWay 24 = .ok (.iaload, 1) := by decide +kernel
theorem dX9_tryWay_25 : decode cX9_tryWay 25 = .ok (.aload_n 0, 1) := by decide +kernel
theorem dX9_tryWay_26 : decode cX9_tryWay 26 = .ok (.getfield 54, 3) := by decide +kernel
theorem dX9_tryWay_29 : decode cX9_tryWay 29 = .ok (.iload 4, 2) := by decide +kernel
theorem dX9_tryWay_31 : decode cX9_tryWay 31 = .ok (.iconst 1, 1) := by decide +kernel
theorem dX9_tryWay_32 : decode cX9_tryWay 32 = .ok (.iadd, 1) := by decide +kernel
theorem dX9_tryWay_33 : decode cX9_tryWay 33 = .ok (.iaload, 1) := by decide +kernel
theorem dX9_tryWay_34 : decode cX9_tryWay 34 = .ok (.invokestatic 143, 3) := by decide +kernel
theorem dX9_tryWay_37 : decode cX9_tryWay 37 = .ok (.iaload, 1) := by decide +kernel
theorem dX9_tryWay_38 : decode cX9_tryWay 38 = .ok (.iconst (-1), 1) := by decide +kernel
theorem dX9_tryWay_39 : decode cX9_tryWay 39 = .ok (.if_icmp .ne 4, 3) := by decide +kernel
theorem dX9_tryWay_42 : decode cX9_tryWay 42 = .ok (.return_, 1) := by decide +kernel
theorem dX9_tryWay_43 : decode cX9_tryWay 43 = .ok (.iload_n 3, 1) := by decide +kernel
theorem dX9_tryWay_44 : decode cX9_tryWay 44 = .ok (.aload_n 0, 1) := by decide +kernel
theorem dX9_tryWay_45 : decode cX9_tryWay 45 = .ok (.getfield 24, 3) := by decide +kernel
theorem dX9_tryWay_48 : decode cX9_tryWay 48 = .ok (.aload_n 0, 1) := by decide +kernel
theorem dX9_tryWay_49 : decode cX9_tryWay 49 = .ok (.getfield 54, 3) := by decide +kernel
theorem dX9_tryWay_52 : decode cX9_tryWay 52 = .ok (.iload 4, 2) := by decide +kernel
theorem dX9_tryWay_54 : decode cX9_tryWay 54 = .ok (.iaload, 1) := by decide +kernel
theorem dX9_tryWay_55 : decode cX9_tryWay 55 = .ok (.aload_n 0, 1) := by decide +kernel
theorem dX9_tryWay_56 : decode cX9_tryWay 56 = .ok (.getfield 54, 3) := by decide +kernel
theorem dX9_tryWay_59 : decode cX9_tryWay 59 = .ok (.iload 4, 2) := by decide +kernel
theorem dX9_tryWay_61 : decode cX9_tryWay 61 = .ok (.iconst 1, 1) := by decide +kernel
theorem dX9_tryWay_62 : decode cX9_tryWay 62 = .ok (.iadd, 1) := by decide +kernel
theorem dX9_tryWay_63 : decode cX9_tryWay 63 = .ok (.iaload, 1) := by decide +kernel
theorem dX9_tryWay_64 : decode cX9_tryWay 64 = .ok (.invokestatic 143, 3) := by decide +kernel
theorem dX9_tryWay_67 : decode cX9_tryWay 67 = .ok (.iaload, 1) := by decide +kernel
theorem dX9_tryWay_68 : decode cX9_tryWay 68 = .ok (.iadd, 1) := by decide +kernel
theorem dX9_tryWay_69 : decode cX9_tryWay 69 = .ok (.istore_n 3, 1) := by decide +kernel
theorem dX9_tryWay_70 : decode cX9_tryWay 70 = .ok (.iinc 4 1, 3) := by decide +kernel
theorem dX9_tryWay_73 : decode cX9_tryWay 73 = .ok (.goto (-68), 3) := by decide +kernel
theorem dX9_tryWay_76 : decode cX9_tryWay 76 = .ok (.iconst 1, 1) := by decide +kernel
theorem dX9_tryWay_77 : decode cX9_tryWay 77 = .ok (.istore 4, 2) := by decide +kernel
theorem dX9_tryWay_79 : decode cX9_tryWay 79 = .ok (.iconst 0, 1) := by decide +kernel
theorem dX9_tryWay_80 : decode cX9_tryWay 80 = .ok (.istore 5, 2) := by decide +kernel
theorem dX9_tryWay_82 : decode cX9_tryWay 82 = .ok (.iload 5, 2) := by decide +kernel
theorem dX9_tryWay_84 : decode cX9_tryWay 84 = .ok (.aload_n 0, 1) := by decide +kernel
theorem dX9_tryWay_85 : decode cX9_tryWay 85 = .ok (.getfield 179, 3) := by decide +kernel
theorem dX9_tryWay_88 : decode cX9_tryWay 88 = .ok (.if_icmp .ge 15, 3) := by decide +kernel
theorem dX9_tryWay_91 : decode cX9_tryWay 91 = .ok (.iload 4, 2) := by decide +kernel
theorem dX9_tryWay_93 : decode cX9_tryWay 93 = .ok (.iconst 4, 1) := by decide +kernel
theorem dX9_tryWay_94 : decode cX9_tryWay 94 = .ok (.imul, 1) := by decide +kernel
theorem dX9_tryWay_95 : decode cX9_tryWay 95 = .ok (.istore 4, 2) := by decide +kernel
theorem dX9_tryWay_97 : decode cX9_tryWay 97 = .ok (.iinc 5 1, 3) := by decide +kernel
theorem dX9_tryWay_100 : decode cX9_tryWay 100 = .ok (.goto (-18), 3) := by decide +kernel
theorem dX9_tryWay_103 : decode cX9_tryWay 103 = .ok (.iconst 0, 1) := by decide +kernel
theorem dX9_tryWay_104 : decode cX9_tryWay 104 = .ok (.istore 5, 2) := by decide +kernel
theorem dX9_tryWay_106 : decode cX9_tryWay 106 = .ok (.iload 5, 2) := by decide +kernel
theorem dX9_tryWay_108 : decode cX9_tryWay 108 = .ok (.iload 4, 2) := by decide +kernel
theorem dX9_tryWay_110 : decode cX9_tryWay 110 = .ok (.if_icmp .ge 312, 3) := by decide +kernel
theorem dX9_tryWay_113 : decode cX9_tryWay 113 = .ok (.iload 5, 2) := by decide +kernel
theorem dX9_tryWay_115 : decode cX9_tryWay 115 = .ok (.istore 6, 2) := by decide +kernel
theorem dX9_tryWay_117 : decode cX9_tryWay 117 = .ok (.iconst 0, 1) := by decide +kernel
theorem dX9_tryWay_118 : decode cX9_tryWay 118 = .ok (.istore 7, 2) := by decide +kernel
theorem dX9_tryWay_120 : decode cX9_tryWay 120 = .ok (.lconst 1, 1) := by decide +kernel
theorem dX9_tryWay_121 : decode cX9_tryWay 121 = .ok (.lstore 8, 2) := by decide +kernel
theorem dX9_tryWay_123 : decode cX9_tryWay 123 = .ok (.lconst 1, 1) := by decide +kernel
theorem dX9_tryWay_124 : decode cX9_tryWay 124 = .ok (.lstore 10, 2) := by decide +kernel
theorem dX9_tryWay_126 : decode cX9_tryWay 126 = .ok (.iconst 1, 1) := by decide +kernel
theorem dX9_tryWay_127 : decode cX9_tryWay 127 = .ok (.istore 12, 2) := by decide +kernel
theorem dX9_tryWay_129 : decode cX9_tryWay 129 = .ok (.iconst 0, 1) := by decide +kernel
theorem dX9_tryWay_130 : decode cX9_tryWay 130 = .ok (.istore 13, 2) := by decide +kernel
theorem dX9_tryWay_132 : decode cX9_tryWay 132 = .ok (.iload 13, 2) := by decide +kernel
theorem dX9_tryWay_134 : decode cX9_tryWay 134 = .ok (.aload_n 0, 1) := by decide +kernel
theorem dX9_tryWay_135 : decode cX9_tryWay 135 = .ok (.getfield 179, 3) := by decide +kernel
theorem dX9_tryWay_138 : decode cX9_tryWay 138 = .ok (.if_icmp .ge 151, 3) := by decide +kernel
theorem dX9_tryWay_141 : decode cX9_tryWay 141 = .ok (.aload_n 0, 1) := by decide +kernel
theorem dX9_tryWay_142 : decode cX9_tryWay 142 = .ok (.getfield 57, 3) := by decide +kernel
theorem dX9_tryWay_145 : decode cX9_tryWay 145 = .ok (.iload 13, 2) := by decide +kernel
theorem dX9_tryWay_147 : decode cX9_tryWay 147 = .ok (.iconst 1, 1) := by decide +kernel
theorem dX9_tryWay_148 : decode cX9_tryWay 148 = .ok (.iload 6, 2) := by decide +kernel
theorem dX9_tryWay_150 : decode cX9_tryWay 150 = .ok (.iconst 4, 1) := by decide +kernel
theorem dX9_tryWay_151 : decode cX9_tryWay 151 = .ok (.irem, 1) := by decide +kernel
theorem dX9_tryWay_152 : decode cX9_tryWay 152 = .ok (.iadd, 1) := by decide +kernel
theorem dX9_tryWay_153 : decode cX9_tryWay 153 = .ok (.iastore, 1) := by decide +kernel
theorem dX9_tryWay_154 : decode cX9_tryWay 154 = .ok (.iload 6, 2) := by decide +kernel
theorem dX9_tryWay_156 : decode cX9_tryWay 156 = .ok (.iconst 4, 1) := by decide +kernel
theorem dX9_tryWay_157 : decode cX9_tryWay 157 = .ok (.idiv, 1) := by decide +kernel
theorem dX9_tryWay_158 : decode cX9_tryWay 158 = .ok (.istore 6, 2) := by decide +kernel
theorem dX9_tryWay_160 : decode cX9_tryWay 160 = .ok (.iload 7, 2) := by decide +kernel
theorem dX9_tryWay_162 : decode cX9_tryWay 162 = .ok (.aload_n 0, 1) := by decide +kernel
theorem dX9_tryWay_163 : decode cX9_tryWay 163 = .ok (.getfield 57, 3) := by decide +kernel
theorem dX9_tryWay_166 : decode cX9_tryWay 166 = .ok (.iload 13, 2) := by decide +kernel
theorem dX9_tryWay_168 : decode cX9_tryWay 168 = .ok (.iaload, 1) := by decide +kernel
theorem dX9_tryWay_169 : decode cX9_tryWay 169 = .ok (.iadd, 1) := by decide +kernel
theorem dX9_tryWay_170 : decode cX9_tryWay 170 = .ok (.istore 7, 2) := by decide +kernel
theorem dX9_tryWay_172 : decode cX9_tryWay 172 = .ok (.iload 12, 2) := by decide +kernel
theorem dX9_tryWay_174 : decode cX9_tryWay 174 = .ok (.ifCond .eq 37, 3) := by decide +kernel
theorem dX9_tryWay_177 : decode cX9_tryWay 177 = .ok (.aload_n 0, 1) := by decide +kernel
theorem dX9_tryWay_178 : decode cX9_tryWay 178 = .ok (.aload_n 0, 1) := by decide +kernel
theorem dX9_tryWay_179 : decode cX9_tryWay 179 = .ok (.getfield 54, 3) := by decide +kernel
theorem dX9_tryWay_182 : decode cX9_tryWay 182 = .ok (.iload 13, 2) := by decide +kernel
theorem dX9_tryWay_184 : decode cX9_tryWay 184 = .ok (.iconst 1, 1) := by decide +kernel
theorem dX9_tryWay_185 : decode cX9_tryWay 185 = .ok (.iadd, 1) := by decide +kernel
theorem dX9_tryWay_186 : decode cX9_tryWay 186 = .ok (.iaload, 1) := by decide +kernel
theorem dX9_tryWay_187 : decode cX9_tryWay 187 = .ok (.aload_n 0, 1) := by decide +kernel
theorem dX9_tryWay_188 : decode cX9_tryWay 188 = .ok (.getfield 54, 3) := by decide +kernel
theorem dX9_tryWay_191 : decode cX9_tryWay 191 = .ok (.iload 13, 2) := by decide +kernel
theorem dX9_tryWay_193 : decode cX9_tryWay 193 = .ok (.iaload, 1) := by decide +kernel
theorem dX9_tryWay_194 : decode cX9_tryWay 194 = .ok (.invokevirtual 152, 3) := by decide +kernel
theorem dX9_tryWay_197 : decode cX9_tryWay 197 = .ok (.aload_n 0, 1) := by decide +kernel
theorem dX9_tryWay_198 : decode cX9_tryWay 198 = .ok (.getfield 57, 3) := by decide +kernel
theorem dX9_tryWay_201 : decode cX9_tryWay 201 = .ok (.iload 13, 2) := by decide +kernel
theorem dX9_tryWay_203 : decode cX9_tryWay 203 = .ok (.iaload, 1) := by decide +kernel
theorem dX9_tryWay_204 : decode cX9_tryWay 204 = .ok (.if_icmp .lt 7, 3) := by decide +kernel
theorem dX9_tryWay_207 : decode cX9_tryWay 207 = .ok (.iconst 1, 1) := by decide +kernel
theorem dX9_tryWay_208 : decode cX9_tryWay 208 = .ok (.goto 4, 3) := by decide +kernel
theorem dX9_tryWay_211 : decode cX9_tryWay 211 = .ok (.iconst 0, 1) := by decide +kernel
theorem dX9_tryWay_212 : decode cX9_tryWay 212 = .ok (.istore 12, 2) := by decide +kernel
theorem dX9_tryWay_214 : decode cX9_tryWay 214 = .ok (.lload 8, 2) := by decide +kernel
theorem dX9_tryWay_216 : decode cX9_tryWay 216 = .ok (.bipush 10, 2) := by decide +kernel
theorem dX9_tryWay_218 : decode cX9_tryWay 218 = .ok (.aload_n 0, 1) := by decide +kernel
theorem dX9_tryWay_219 : decode cX9_tryWay 219 = .ok (.getfield 57, 3) := by decide +kernel
theorem dX9_tryWay_222 : decode cX9_tryWay 222 = .ok (.iload 13, 2) := by decide +kernel
theorem dX9_tryWay_224 : decode cX9_tryWay 224 = .ok (.iaload, 1) := by decide +kernel
theorem dX9_tryWay_225 : decode cX9_tryWay 225 = .ok (.invokestatic 158, 3) := by decide +kernel
theorem dX9_tryWay_228 : decode cX9_tryWay 228 = .ok (.aload_n 0, 1) := by decide +kernel
theorem dX9_tryWay_229 : decode cX9_tryWay 229 = .ok (.getfield 27, 3) := by decide +kernel
theorem dX9_tryWay_232 : decode cX9_tryWay 232 = .ok (.aload_n 0, 1) := by decide +kernel
theorem dX9_tryWay_233 : decode cX9_tryWay 233 = .ok (.getfield 54, 3) := by decide +kernel
theorem dX9_tryWay_236 : decode cX9_tryWay 236 = .ok (.iload 13, 2) := by decide +kernel
theorem dX9_tryWay_238 : decode cX9_tryWay 238 = .ok (.iaload, 1) := by decide +kernel
theorem dX9_tryWay_239 : decode cX9_tryWay 239 = .ok (.aload_n 0, 1) := by decide +kernel
theorem dX9_tryWay_240 : decode cX9_tryWay 240 = .ok (.getfield 54, 3) := by decide +kernel
theorem dX9_tryWay_243 : decode cX9_tryWay 243 = .ok (.iload 13, 2) := by decide +kernel
theorem dX9_tryWay_245 : decode cX9_tryWay 245 = .ok (.iconst 1, 1) := by decide +kernel
theorem dX9_tryWay_246 : decode cX9_tryWay 246 = .ok (.iadd, 1) := by decide +kernel
theorem dX9_tryWay_247 : decode cX9_tryWay 247 = .ok (.iaload, 1) := by decide +kernel
theorem dX9_tryWay_248 : decode cX9_tryWay 248 = .ok (.invokestatic 143, 3) := by decide +kernel
theorem dX9_tryWay_251 : decode cX9_tryWay 251 = .ok (.iaload, 1) := by decide +kernel
theorem dX9_tryWay_252 : decode cX9_tryWay 252 = .ok (.aload_n 0, 1) := by decide +kernel
theorem dX9_tryWay_253 : decode cX9_tryWay 253 = .ok (.getfield 57, 3) := by decide +kernel
theorem dX9_tryWay_256 : decode cX9_tryWay 256 = .ok (.iload 13, 2) := by decide +kernel
theorem dX9_tryWay_258 : decode cX9_tryWay 258 = .ok (.iaload, 1) := by decide +kernel
theorem dX9_tryWay_259 : decode cX9_tryWay 259 = .ok (.invokestatic 158, 3) := by decide +kernel
theorem dX9_tryWay_262 : decode cX9_tryWay 262 = .ok (.lsub, 1) := by decide +kernel
theorem dX9_tryWay_263 : decode cX9_tryWay 263 = .ok (.lmul, 1) := by decide +kernel
theorem dX9_tryWay_264 : decode cX9_tryWay 264 = .ok (.lstore 8, 2) := by decide +kernel
theorem dX9_tryWay_266 : decode cX9_tryWay 266 = .ok (.lload 10, 2) := by decide +kernel
theorem dX9_tryWay_268 : decode cX9_tryWay 268 = .ok (.bipush 10, 2) := by decide +kernel
theorem dX9_tryWay_270 : decode cX9_tryWay 270 = .ok (.aload_n 0, 1) := by decide +kernel
theorem dX9_tryWay_271 : decode cX9_tryWay 271 = .ok (.getfield 57, 3) := by decide +kernel
theorem dX9_tryWay_274 : decode cX9_tryWay 274 = .ok (.iload 13, 2) := by decide +kernel
theorem dX9_tryWay_276 : decode cX9_tryWay 276 = .ok (.iaload, 1) := by decide +kernel
theorem dX9_tryWay_277 : decode cX9_tryWay 277 = .ok (.invokestatic 158, 3) := by decide +kernel
theorem dX9_tryWay_280 : decode cX9_tryWay 280 = .ok (.lmul, 1) := by decide +kernel
theorem dX9_tryWay_281 : decode cX9_tryWay 281 = .ok (.lstore 10, 2) := by decide +kernel
theorem dX9_tryWay_283 : decode cX9_tryWay 283 = .ok (.iinc 13 1, 3) := by decide +kernel
theorem dX9_tryWay_286 : decode cX9_tryWay 286 = .ok (.goto (-154), 3) := by decide +kernel
theorem dX9_tryWay_289 : decode cX9_tryWay 289 = .ok (.iload 12, 2) := by decide +kernel
theorem dX9_tryWay_291 : decode cX9_tryWay 291 = .ok (.ifCond .eq 125, 3) := by decide +kernel
theorem dX9_tryWay_294 : decode cX9_tryWay 294 = .ok (.lload 8, 2) := by decide +kernel
theorem dX9_tryWay_296 : decode cX9_tryWay 296 = .ok (.iload_n 2, 1) := by decide +kernel
theorem dX9_tryWay_297 : decode cX9_tryWay 297 = .ok (.i2l, 1) := by decide +kernel
theorem dX9_tryWay_298 : decode cX9_tryWay 298 = .ok (.lmul, 1) := by decide +kernel
theorem dX9_tryWay_299 : decode cX9_tryWay 299 = .ok (.iload_n 1, 1) := by decide +kernel
theorem dX9_tryWay_300 : decode cX9_tryWay 300 = .ok (.i2l, 1) := by decide +kernel
theorem dX9_tryWay_301 : decode cX9_tryWay 301 = .ok (.lload 10, 2) := by decide +kernel
theorem dX9_tryWay_303 : decode cX9_tryWay 303 = .ok (.lmul, 1) := by decide +kernel
theorem dX9_tryWay_304 : decode cX9_tryWay 304 = .ok (.lcmp, 1) := by decide +kernel
theorem dX9_tryWay_305 : decode cX9_tryWay 305 = .ok (.ifCond .lt 111, 3) := by decide +kernel
theorem dX9_tryWay_308 : decode cX9_tryWay 308 = .ok (.aload_n 0, 1) := by decide +kernel
theorem dX9_tryWay_309 : decode cX9_tryWay 309 = .ok (.iload 7, 2) := by decide +kernel
theorem dX9_tryWay_311 : decode cX9_tryWay 311 = .ok (.iload_n 3, 1) := by decide +kernel
theorem dX9_tryWay_312 : decode cX9_tryWay 312 = .ok (.invokevirtual 182, 3) := by decide +kernel
theorem dX9_tryWay_315 : decode cX9_tryWay 315 = .ok (.ifCond .ne 6, 3) := by decide +kernel
theorem dX9_tryWay_318 : decode cX9_tryWay 318 = .ok (.goto 98, 3) := by decide +kernel
theorem dX9_tryWay_321 : decode cX9_tryWay 321 = .ok (.aload_n 0, 1) := by decide +kernel
theorem dX9_tryWay_322 : decode cX9_tryWay 322 = .ok (.aload_n 0, 1) := by decide +kernel
theorem dX9_tryWay_323 : decode cX9_tryWay 323 = .ok (.getfield 179, 3) := by decide +kernel
theorem dX9_tryWay_326 : decode cX9_tryWay 326 = .ok (.putfield 170, 3) := by decide +kernel
theorem dX9_tryWay_329 : decode cX9_tryWay 329 = .ok (.aload_n 0, 1) := by decide +kernel
theorem dX9_tryWay_330 : decode cX9_tryWay 330 = .ok (.iload 7, 2) := by decide +kernel
theorem dX9_tryWay_332 : decode cX9_tryWay 332 = .ok (.putfield 173, 3) := by decide +kernel
theorem dX9_tryWay_335 : decode cX9_tryWay 335 = .ok (.aload_n 0, 1) := by decide +kernel
theorem dX9_tryWay_336 : decode cX9_tryWay 336 = .ok (.iload_n 3, 1) := by decide +kernel
theorem dX9_tryWay_337 : decode cX9_tryWay 337 = .ok (.putfield 176, 3) := by decide +kernel
theorem dX9_tryWay_340 : decode cX9_tryWay 340 = .ok (.aload_n 0, 1) := by decide +kernel
theorem dX9_tryWay_341 : decode cX9_tryWay 341 = .ok (.lload 8, 2) := by decide +kernel
theorem dX9_tryWay_343 : decode cX9_tryWay 343 = .ok (.putfield 185, 3) := by decide +kernel
theorem dX9_tryWay_346 : decode cX9_tryWay 346 = .ok (.aload_n 0, 1) := by decide +kernel
theorem dX9_tryWay_347 : decode cX9_tryWay 347 = .ok (.lload 10, 2) := by decide +kernel
theorem dX9_tryWay_349 : decode cX9_tryWay 349 = .ok (.putfield 188, 3) := by decide +kernel
theorem dX9_tryWay_352 : decode cX9_tryWay 352 = .ok (.iconst 0, 1) := by decide +kernel
theorem dX9_tryWay_353 : decode cX9_tryWay 353 = .ok (.istore 13, 2) := by decide +kernel
theorem dX9_tryWay_355 : decode cX9_tryWay 355 = .ok (.iload 13, 2) := by decide +kernel
theorem dX9_tryWay_357 : decode cX9_tryWay 357 = .ok (.aload_n 0, 1) := by decide +kernel
theorem dX9_tryWay_358 : decode cX9_tryWay 358 = .ok (.getfield 179, 3) := by decide +kernel
theorem dX9_tryWay_361 : decode cX9_tryWay 361 = .ok (.if_icmp .gt 23, 3) := by decide +kernel
theorem dX9_tryWay_364 : decode cX9_tryWay 364 = .ok (.aload_n 0, 1) := by decide +kernel
theorem dX9_tryWay_365 : decode cX9_tryWay 365 = .ok (.getfield 60, 3) := by decide +kernel
theorem dX9_tryWay_368 : decode cX9_tryWay 368 = .ok (.iload 13, 2) := by decide +kernel
theorem dX9_tryWay_370 : decode cX9_tryWay 370 = .ok (.aload_n 0, 1) := by decide +kernel
theorem dX9_tryWay_371 : decode cX9_tryWay 371 = .ok (.getfield 54, 3) := by decide +kernel
theorem dX9_tryWay_374 : decode cX9_tryWay 374 = .ok (.iload 13, 2) := by decide +kernel
theorem dX9_tryWay_376 : decode cX9_tryWay 376 = .ok (.iaload, 1) := by decide +kernel
theorem dX9_tryWay_377 : decode cX9_tryWay 377 = .ok (.iastore, 1) := by decide +kernel
theorem dX9_tryWay_378 : decode cX9_tryWay 378 = .ok (.iinc 13 1, 3) := by decide +kernel
theorem dX9_tryWay_381 : decode cX9_tryWay 381 = .ok (.goto (-26), 3) := by decide +kernel
theorem dX9_tryWay_384 : decode cX9_tryWay 384 = .ok (.iconst 0, 1) := by decide +kernel
theorem dX9_tryWay_385 : decode cX9_tryWay 385 = .ok (.istore 13, 2) := by decide +kernel
theorem dX9_tryWay_387 : decode cX9_tryWay 387 = .ok (.iload 13, 2) := by decide +kernel
theorem dX9_tryWay_389 : decode cX9_tryWay 389 = .ok (.aload_n 0, 1) := by decide +kernel
theorem dX9_tryWay_390 : decode cX9_tryWay 390 = .ok (.getfield 179, 3) := by decide +kernel
theorem dX9_tryWay_393 : decode cX9_tryWay 393 = .ok (.if_icmp .ge 23, 3) := by decide +kernel
theorem dX9_tryWay_396 : decode cX9_tryWay 396 = .ok (.aload_n 0, 1) := by decide +kernel
theorem dX9_tryWay_397 : decode cX9_tryWay 397 = .ok (.getfield 63, 3) := by decide +kernel
theorem dX9_tryWay_400 : decode cX9_tryWay 400 = .ok (.iload 13, 2) := by decide +kernel
theorem dX9_tryWay_402 : decode cX9_tryWay 402 = .ok (.aload_n 0, 1) := by decide +kernel
theorem dX9_tryWay_403 : decode cX9_tryWay 403 = .ok (.getfield 57, 3) := by decide +kernel
theorem dX9_tryWay_406 : decode cX9_tryWay 406 = .ok (.iload 13, 2) := by decide +kernel
theorem dX9_tryWay_408 : decode cX9_tryWay 408 = .ok (.iaload, 1) := by decide +kernel
theorem dX9_tryWay_409 : decode cX9_tryWay 409 = .ok (.iastore, 1) := by decide +kernel
theorem dX9_tryWay_410 : decode cX9_tryWay 410 = .ok (.iinc 13 1, 3) := by decide +kernel
theorem dX9_tryWay_413 : decode cX9_tryWay 413 = .ok (.goto (-26), 3) := by decide +kernel
theorem dX9_tryWay_416 : decode cX9_tryWay 416 = .ok (.iinc 5 1, 3) := by decide +kernel
theorem dX9_tryWay_419 : decode cX9_tryWay 419 = .ok (.goto (-313), 3) := by decide +kernel
theorem dX9_tryWay_422 : decode cX9_tryWay 422 = .ok (.return_, 1) := by decide +kernel
theorem dX9_value_0 : decode cX9_value 0 = .ok (.iload_n 3, 1) := by decide +kernel
theorem dX9_value_1 : decode cX9_value 1 = .ok (.ifCond .ne 7, 3) := by decide +kernel
theorem dX9_value_4 : decode cX9_value 4 = .ok (.lconst 0, 1) := by decide +kernel
theorem dX9_value_5 : decode cX9_value 5 = .ok (.goto 44, 3) := by decide +kernel
theorem dX9_value_8 : decode cX9_value 8 = .ok (.ldc2_w 216, 3) := by decide +kernel
theorem dX9_value_11 : decode cX9_value 11 = .ok (.iload_n 3, 1) := by decide +kernel
theorem dX9_value_12 : decode cX9_value 12 = .ok (.i2l, 1) := by decide +kernel
theorem dX9_value_13 : decode cX9_value 13 = .ok (.lmul, 1) := by decide +kernel
theorem dX9_value_14 : decode cX9_value 14 = .ok (.aload_n 0, 1) := by decide +kernel
theorem dX9_value_15 : decode cX9_value 15 = .ok (.getfield 36, 3) := by decide +kernel
theorem dX9_value_18 : decode cX9_value 18 = .ok (.iload_n 1, 1) := by decide +kernel
theorem dX9_value_19 : decode cX9_value 19 = .ok (.iload_n 2, 1) := by decide +kernel
theorem dX9_value_20 : decode cX9_value 20 = .ok (.invokestatic 143, 3) := by decide +kernel
theorem dX9_value_23 : decode cX9_value 23 = .ok (.iaload, 1) := by decide +kernel
theorem dX9_value_24 : decode cX9_value 24 = .ok (.i2l, 1) := by decide +kernel
theorem dX9_value_25 : decode cX9_value 25 = .ok (.lmul, 1) := by decide +kernel
theorem dX9_value_26 : decode cX9_value 26 = .ok (.iload_n 3, 1) := by decide +kernel
theorem dX9_value_27 : decode cX9_value 27 = .ok (.bipush 6, 2) := by decide +kernel
theorem dX9_value_29 : decode cX9_value 29 = .ok (.iadd, 1) := by decide +kernel
theorem dX9_value_30 : decode cX9_value 30 = .ok (.iconst 1, 1) := by decide +kernel
theorem dX9_value_31 : decode cX9_value 31 = .ok (.isub, 1) := by decide +kernel
theorem dX9_value_32 : decode cX9_value 32 = .ok (.bipush 6, 2) := by decide +kernel
theorem dX9_value_34 : decode cX9_value 34 = .ok (.idiv, 1) := by decide +kernel
theorem dX9_value_35 : decode cX9_value 35 = .ok (.i2l, 1) := by decide +kernel
theorem dX9_value_36 : decode cX9_value 36 = .ok (.aload_n 0, 1) := by decide +kernel
theorem dX9_value_37 : decode cX9_value 37 = .ok (.getfield 30, 3) := by decide +kernel
theorem dX9_value_40 : decode cX9_value 40 = .ok (.iload_n 2, 1) := by decide +kernel
theorem dX9_value_41 : decode cX9_value 41 = .ok (.iload_n 1, 1) := by decide +kernel
theorem dX9_value_42 : decode cX9_value 42 = .ok (.invokestatic 143, 3) := by decide +kernel
theorem dX9_value_45 : decode cX9_value 45 = .ok (.iaload, 1) := by decide +kernel
theorem dX9_value_46 : decode cX9_value 46 = .ok (.i2l, 1) := by decide +kernel
theorem dX9_value_47 : decode cX9_value 47 = .ok (.lmul, 1) := by decide +kernel
theorem dX9_value_48 : decode cX9_value 48 = .ok (.lsub, 1) := by decide +kernel
theorem dX9_value_49 : decode cX9_value 49 = .ok (.lreturn, 1) := by decide +kernel
theorem dX9_waits_0 : decode cX9_waits 0 = .ok (.aload_n 0, 1) := by decide +kernel
theorem dX9_waits_1 : decode cX9_waits 1 = .ok (.iload_n 1, 1) := by decide +kernel
theorem dX9_waits_2 : decode cX9_waits 2 = .ok (.invokevirtual 146, 3) := by decide +kernel
theorem dX9_waits_5 : decode cX9_waits 5 = .ok (.ifCond .eq 11, 3) := by decide +kernel
theorem dX9_waits_8 : decode cX9_waits 8 = .ok (.aload_n 0, 1) := by decide +kernel
theorem dX9_waits_9 : decode cX9_waits 9 = .ok (.iload_n 2, 1) := by decide +kernel
theorem dX9_waits_10 : decode cX9_waits 10 = .ok (.invokevirtual 146, 3) := by decide +kernel
theorem dX9_waits_13 : decode cX9_waits 13 = .ok (.ifCond .ne 9, 3) := by decide +kernel
theorem dX9_waits_16 : decode cX9_waits 16 = .ok (.aload_n 0, 1) := by decide +kernel
theorem dX9_waits_17 : decode cX9_waits 17 = .ok (.iconst 1, 1) := by decide +kernel
theorem dX9_waits_18 : decode cX9_waits 18 = .ok (.invokevirtual 139, 3) := by decide +kernel
theorem dX9_waits_21 : decode cX9_waits 21 = .ok (.ireturn, 1) := by decide +kernel
theorem dX9_waits_22 : decode cX9_waits 22 = .ok (.aload_n 0, 1) := by decide +kernel
theorem dX9_waits_23 : decode cX9_waits 23 = .ok (.iconst 0, 1) := by decide +kernel
theorem dX9_waits_24 : decode cX9_waits 24 = .ok (.putfield 109, 3) := by decide +kernel
theorem dX9_waits_27 : decode cX9_waits 27 = .ok (.aload_n 0, 1) := by decide +kernel
theorem dX9_waits_28 : decode cX9_waits 28 = .ok (.iload_n 1, 1) := by decide +kernel
theorem dX9_waits_29 : decode cX9_waits 29 = .ok (.iload_n 2, 1) := by decide +kernel
theorem dX9_waits_30 : decode cX9_waits 30 = .ok (.invokevirtual 152, 3) := by decide +kernel
theorem dX9_waits_33 : decode cX9_waits 33 = .ok (.ireturn, 1) := by decide +kernel
theorem dX9_want_0 : decode cX9_want 0 = .ok (.aload_n 0, 1) := by decide +kernel
theorem dX9_want_1 : decode cX9_want 1 = .ok (.iload_n 1, 1) := by decide +kernel
theorem dX9_want_2 : decode cX9_want 2 = .ok (.invokevirtual 146, 3) := by decide +kernel
theorem dX9_want_5 : decode cX9_want 5 = .ok (.ifCond .eq 39, 3) := by decide +kernel
theorem dX9_want_8 : decode cX9_want 8 = .ok (.aload_n 0, 1) := by decide +kernel
theorem dX9_want_9 : decode cX9_want 9 = .ok (.iload_n 2, 1) := by decide +kernel
theorem dX9_want_10 : decode cX9_want 10 = .ok (.invokevirtual 146, 3) := by decide +kernel
theorem dX9_want_13 : decode cX9_want 13 = .ok (.ifCond .eq 31, 3) := by decide +kernel
theorem dX9_want_16 : decode cX9_want 16 = .ok (.iload_n 1, 1) := by decide +kernel
theorem dX9_want_17 : decode cX9_want 17 = .ok (.iload_n 2, 1) := by decide +kernel
theorem dX9_want_18 : decode cX9_want 18 = .ok (.if_icmp .eq 26, 3) := by decide +kernel
theorem dX9_want_21 : decode cX9_want 21 = .ok (.iload_n 3, 1) := by decide +kernel
theorem dX9_want_22 : decode cX9_want 22 = .ok (.ifCond .lt 22, 3) := by decide +kernel
theorem dX9_want_25 : decode cX9_want 25 = .ok (.iload_n 3, 1) := by decide +kernel
theorem dX9_want_26 : decode cX9_want 26 = .ok (.bipush 20, 2) := by decide +kernel
theorem dX9_want_28 : decode cX9_want 28 = .ok (.if_icmp .gt 16, 3) := by decide +kernel
theorem dX9_want_31 : decode cX9_want 31 = .ok (.iload 4, 2) := by decide +kernel
theorem dX9_want_33 : decode cX9_want 33 = .ok (.iconst 1, 1) := by decide +kernel
theorem dX9_want_34 : decode cX9_want 34 = .ok (.if_icmp .lt 10, 3) := by decide +kernel
theorem dX9_want_37 : decode cX9_want 37 = .ok (.iload 4, 2) := by decide +kernel
theorem dX9_want_39 : decode cX9_want 39 = .ok (.bipush 100, 2) := by decide +kernel
theorem dX9_want_41 : decode cX9_want 41 = .ok (.if_icmp .le 9, 3) := by decide +kernel
theorem dX9_want_44 : decode cX9_want 44 = .ok (.aload_n 0, 1) := by decide +kernel
theorem dX9_want_45 : decode cX9_want 45 = .ok (.iconst 1, 1) := by decide +kernel
theorem dX9_want_46 : decode cX9_want 46 = .ok (.invokevirtual 120, 3) := by decide +kernel
theorem dX9_want_49 : decode cX9_want 49 = .ok (.ireturn, 1) := by decide +kernel
theorem dX9_want_50 : decode cX9_want 50 = .ok (.aload_n 0, 1) := by decide +kernel
theorem dX9_want_51 : decode cX9_want 51 = .ok (.getfield 33, 3) := by decide +kernel
theorem dX9_want_54 : decode cX9_want 54 = .ok (.iload_n 1, 1) := by decide +kernel
theorem dX9_want_55 : decode cX9_want 55 = .ok (.iload_n 2, 1) := by decide +kernel
theorem dX9_want_56 : decode cX9_want 56 = .ok (.invokestatic 143, 3) := by decide +kernel
theorem dX9_want_59 : decode cX9_want 59 = .ok (.iload_n 3, 1) := by decide +kernel
theorem dX9_want_60 : decode cX9_want 60 = .ok (.iastore, 1) := by decide +kernel
theorem dX9_want_61 : decode cX9_want 61 = .ok (.aload_n 0, 1) := by decide +kernel
theorem dX9_want_62 : decode cX9_want 62 = .ok (.getfield 36, 3) := by decide +kernel
theorem dX9_want_65 : decode cX9_want 65 = .ok (.iload_n 1, 1) := by decide +kernel
theorem dX9_want_66 : decode cX9_want 66 = .ok (.iload_n 2, 1) := by decide +kernel
theorem dX9_want_67 : decode cX9_want 67 = .ok (.invokestatic 143, 3) := by decide +kernel
theorem dX9_want_70 : decode cX9_want 70 = .ok (.iload 4, 2) := by decide +kernel
theorem dX9_want_72 : decode cX9_want 72 = .ok (.iastore, 1) := by decide +kernel
theorem dX9_want_73 : decode cX9_want 73 = .ok (.aload_n 0, 1) := by decide +kernel
theorem dX9_want_74 : decode cX9_want 74 = .ok (.iconst 0, 1) := by decide +kernel
theorem dX9_want_75 : decode cX9_want 75 = .ok (.invokevirtual 120, 3) := by decide +kernel
theorem dX9_want_78 : decode cX9_want 78 = .ok (.ireturn, 1) := by decide +kernel
theorem dX9_write_0 : decode cX9_write 0 = .ok (.aload_n 0, 1) := by decide +kernel
theorem dX9_write_1 : decode cX9_write 1 = .ok (.iload_n 1, 1) := by decide +kernel
theorem dX9_write_2 : decode cX9_write 2 = .ok (.iload_n 2, 1) := by decide +kernel
theorem dX9_write_3 : decode cX9_write 3 = .ok (.invokevirtual 123, 3) := by decide +kernel
theorem dX9_write_6 : decode cX9_write 6 = .ok (.istore 5, 2) := by decide +kernel
theorem dX9_write_8 : decode cX9_write 8 = .ok (.iload 5, 2) := by decide +kernel
theorem dX9_write_10 : decode cX9_write 10 = .ok (.ifCond .ne 24, 3) := by decide +kernel
theorem dX9_write_13 : decode cX9_write 13 = .ok (.aload_n 0, 1) := by decide +kernel
theorem dX9_write_14 : decode cX9_write 14 = .ok (.getfield 20, 3) := by decide +kernel
theorem dX9_write_17 : decode cX9_write 17 = .ok (.bipush 60, 2) := by decide +kernel
theorem dX9_write_19 : decode cX9_write 19 = .ok (.iload_n 1, 1) := by decide +kernel
theorem dX9_write_20 : decode cX9_write 20 = .ok (.imul, 1) := by decide +kernel
theorem dX9_write_21 : decode cX9_write 21 = .ok (.iload_n 2, 1) := by decide +kernel
theorem dX9_write_22 : decode cX9_write 22 = .ok (.iadd, 1) := by decide +kernel
theorem dX9_write_23 : decode cX9_write 23 = .ok (.lload_n 3, 1) := by decide +kernel
theorem dX9_write_24 : decode cX9_write 24 = .ok (.aload_n 0, 1) := by decide +kernel
theorem dX9_write_25 : decode cX9_write 25 = .ok (.getfield 13, 3) := by decide +kernel
theorem dX9_write_28 : decode cX9_write 28 = .ok (.iload_n 1, 1) := by decide +kernel
theorem dX9_write_29 : decode cX9_write 29 = .ok (.iaload, 1) := by decide +kernel
theorem dX9_write_30 : decode cX9_write 30 = .ok (.invokestatic 127, 3) := by decide +kernel
theorem dX9_write_33 : decode cX9_write 33 = .ok (.lastore, 1) := by decide +kernel
theorem dX9_write_34 : decode cX9_write 34 = .ok (.aload_n 0, 1) := by decide +kernel
theorem dX9_write_35 : decode cX9_write 35 = .ok (.iload 5, 2) := by decide +kernel
theorem dX9_write_37 : decode cX9_write 37 = .ok (.invokevirtual 120, 3) := by decide +kernel
theorem dX9_write_40 : decode cX9_write 40 = .ok (.ireturn, 1) := by decide +kernel
theorem dX9_wrong_0 : decode cX9_wrong 0 = .ok (.iload_n 1, 1) := by decide +kernel
theorem dX9_wrong_1 : decode cX9_wrong 1 = .ok (.invokestatic 116, 3) := by decide +kernel
theorem dX9_wrong_4 : decode cX9_wrong 4 = .ok (.ifCond .ne 7, 3) := by decide +kernel
theorem dX9_wrong_7 : decode cX9_wrong 7 = .ok (.iconst 1, 1) := by decide +kernel
theorem dX9_wrong_8 : decode cX9_wrong 8 = .ok (.goto 36, 3) := by decide +kernel
theorem dX9_wrong_11 : decode cX9_wrong 11 = .ok (.aload_n 0, 1) := by decide +kernel
theorem dX9_wrong_12 : decode cX9_wrong 12 = .ok (.getfield 17, 3) := by decide +kernel
theorem dX9_wrong_15 : decode cX9_wrong 15 = .ok (.iload_n 1, 1) := by decide +kernel
theorem dX9_wrong_16 : decode cX9_wrong 16 = .ok (.iaload, 1) := by decide +kernel
theorem dX9_wrong_17 : decode cX9_wrong 17 = .ok (.iconst (-1), 1) := by decide +kernel
theorem dX9_wrong_18 : decode cX9_wrong 18 = .ok (.if_icmp .ne 7, 3) := by decide +kernel
theorem dX9_wrong_21 : decode cX9_wrong 21 = .ok (.iconst 3, 1) := by decide +kernel
theorem dX9_wrong_22 : decode cX9_wrong 22 = .ok (.goto 22, 3) := by decide +kernel
theorem dX9_wrong_25 : decode cX9_wrong 25 = .ok (.iload_n 2, 1) := by decide +kernel
theorem dX9_wrong_26 : decode cX9_wrong 26 = .ok (.ifCond .lt 13, 3) := by decide +kernel
theorem dX9_wrong_29 : decode cX9_wrong 29 = .ok (.iload_n 2, 1) := by decide +kernel
theorem dX9_wrong_30 : decode cX9_wrong 30 = .ok (.aload_n 0, 1) := by decide +kernel
theorem dX9_wrong_31 : decode cX9_wrong 31 = .ok (.getfield 17, 3) := by decide +kernel
theorem dX9_wrong_34 : decode cX9_wrong 34 = .ok (.iload_n 1, 1) := by decide +kernel
theorem dX9_wrong_35 : decode cX9_wrong 35 = .ok (.iaload, 1) := by decide +kernel
theorem dX9_wrong_36 : decode cX9_wrong 36 = .ok (.if_icmp .lt 7, 3) := by decide +kernel
theorem dX9_wrong_39 : decode cX9_wrong 39 = .ok (.iconst 4, 1) := by decide +kernel
theorem dX9_wrong_40 : decode cX9_wrong 40 = .ok (.goto 4, 3) := by decide +kernel
theorem dX9_wrong_43 : decode cX9_wrong 43 = .ok (.iconst 0, 1) := by decide +kernel
theorem dX9_wrong_44 : decode cX9_wrong 44 = .ok (.ireturn, 1) := by decide +kernel
theorem dX9_wrongRoad_0 : decode cX9_wrongRoad 0 = .ok (.aload_n 0, 1) := by decide +kernel
theorem dX9_wrongRoad_1 : decode cX9_wrongRoad 1 = .ok (.iload_n 1, 1) := by decide +kernel
theorem dX9_wrongRoad_2 : decode cX9_wrongRoad 2 = .ok (.invokevirtual 146, 3) := by decide +kernel
theorem dX9_wrongRoad_5 : decode cX9_wrongRoad 5 = .ok (.ifCond .eq 16, 3) := by decide +kernel
theorem dX9_wrongRoad_8 : decode cX9_wrongRoad 8 = .ok (.aload_n 0, 1) := by decide +kernel
theorem dX9_wrongRoad_9 : decode cX9_wrongRoad 9 = .ok (.iload_n 2, 1) := by decide +kernel
theorem dX9_wrongRoad_10 : decode cX9_wrongRoad 10 = .ok (.invokevirtual 146, 3) := by decide +kernel
theorem dX9_wrongRoad_13 : decode cX9_wrongRoad 13 = .ok (.ifCond .eq 8, 3) := by decide +kernel
theorem dX9_wrongRoad_16 : decode cX9_wrongRoad 16 = .ok (.iload_n 1, 1) := by decide +kernel
theorem dX9_wrongRoad_17 : decode cX9_wrongRoad 17 = .ok (.iload_n 2, 1) := by decide +kernel
theorem dX9_wrongRoad_18 : decode cX9_wrongRoad 18 = .ok (.if_icmp .ne 7, 3) := by decide +kernel
theorem dX9_wrongRoad_21 : decode cX9_wrongRoad 21 = .ok (.iconst 1, 1) := by decide +kernel
theorem dX9_wrongRoad_22 : decode cX9_wrongRoad 22 = .ok (.goto 23, 3) := by decide +kernel
theorem dX9_wrongRoad_25 : decode cX9_wrongRoad 25 = .ok (.aload_n 0, 1) := by decide +kernel
theorem dX9_wrongRoad_26 : decode cX9_wrongRoad 26 = .ok (.getfield 24, 3) := by decide +kernel
theorem dX9_wrongRoad_29 : decode cX9_wrongRoad 29 = .ok (.iload_n 1, 1) := by decide +kernel
theorem dX9_wrongRoad_30 : decode cX9_wrongRoad 30 = .ok (.iload_n 2, 1) := by decide +kernel
theorem dX9_wrongRoad_31 : decode cX9_wrongRoad 31 = .ok (.invokestatic 143, 3) := by decide +kernel
theorem dX9_wrongRoad_34 : decode cX9_wrongRoad 34 = .ok (.iaload, 1) := by decide +kernel
theorem dX9_wrongRoad_35 : decode cX9_wrongRoad 35 = .ok (.iconst (-1), 1) := by decide +kernel
theorem dX9_wrongRoad_36 : decode cX9_wrongRoad 36 = .ok (.if_icmp .ne 8, 3) := by decide +kernel
theorem dX9_wrongRoad_39 : decode cX9_wrongRoad 39 = .ok (.bipush 6, 2) := by decide +kernel
theorem dX9_wrongRoad_41 : decode cX9_wrongRoad 41 = .ok (.goto 4, 3) := by decide +kernel
theorem dX9_wrongRoad_44 : decode cX9_wrongRoad 44 = .ok (.iconst 0, 1) := by decide +kernel
theorem dX9_wrongRoad_45 : decode cX9_wrongRoad 45 = .ok (.ireturn, 1) := by decide +kernel
