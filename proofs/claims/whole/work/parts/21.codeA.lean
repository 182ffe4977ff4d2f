/-! Instructions by their place. -/
theorem c1_0 : qcd 1 0 = some (.iload_n 0, 1) := by decide +kernel
theorem c1_1 : qcd 1 1 = some (.iload_n 0, 1) := by decide +kernel
theorem c1_2 : qcd 1 2 = some (.iconst 1, 1) := by decide +kernel
theorem c1_3 : qcd 1 3 = some (.iushr, 1) := by decide +kernel
theorem c1_4 : qcd 1 4 = some (.ldc_w 265, 3) := by decide +kernel
theorem c1_7 : qcd 1 7 = some (.iand, 1) := by decide +kernel
theorem c1_8 : qcd 1 8 = some (.isub, 1) := by decide +kernel
theorem c1_9 : qcd 1 9 = some (.istore_n 0, 1) := by decide +kernel
theorem c1_10 : qcd 1 10 = some (.iload_n 0, 1) := by decide +kernel
theorem c1_11 : qcd 1 11 = some (.ldc_w 266, 3) := by decide +kernel
theorem c1_14 : qcd 1 14 = some (.iand, 1) := by decide +kernel
theorem c1_15 : qcd 1 15 = some (.iload_n 0, 1) := by decide +kernel
theorem c1_16 : qcd 1 16 = some (.iconst 2, 1) := by decide +kernel
theorem c1_17 : qcd 1 17 = some (.iushr, 1) := by decide +kernel
theorem c1_18 : qcd 1 18 = some (.ldc_w 266, 3) := by decide +kernel
theorem c1_21 : qcd 1 21 = some (.iand, 1) := by decide +kernel
theorem c1_22 : qcd 1 22 = some (.iadd, 1) := by decide +kernel
theorem c1_23 : qcd 1 23 = some (.istore_n 0, 1) := by decide +kernel
theorem c1_24 : qcd 1 24 = some (.iload_n 0, 1) := by decide +kernel
theorem c1_25 : qcd 1 25 = some (.iload_n 0, 1) := by decide +kernel
theorem c1_26 : qcd 1 26 = some (.iconst 4, 1) := by decide +kernel
theorem c1_27 : qcd 1 27 = some (.iushr, 1) := by decide +kernel
theorem c1_28 : qcd 1 28 = some (.iadd, 1) := by decide +kernel
theorem c1_29 : qcd 1 29 = some (.ldc_w 267, 3) := by decide +kernel
theorem c1_32 : qcd 1 32 = some (.iand, 1) := by decide +kernel
theorem c1_33 : qcd 1 33 = some (.istore_n 0, 1) := by decide +kernel
theorem c1_34 : qcd 1 34 = some (.iload_n 0, 1) := by decide +kernel
theorem c1_35 : qcd 1 35 = some (.iload_n 0, 1) := by decide +kernel
theorem c1_36 : qcd 1 36 = some (.bipush 8, 2) := by decide +kernel
theorem c1_38 : qcd 1 38 = some (.iushr, 1) := by decide +kernel
theorem c1_39 : qcd 1 39 = some (.iadd, 1) := by decide +kernel
theorem c1_40 : qcd 1 40 = some (.istore_n 0, 1) := by decide +kernel
theorem c1_41 : qcd 1 41 = some (.iload_n 0, 1) := by decide +kernel
theorem c1_42 : qcd 1 42 = some (.iload_n 0, 1) := by decide +kernel
theorem c1_43 : qcd 1 43 = some (.bipush 16, 2) := by decide +kernel
theorem c1_45 : qcd 1 45 = some (.iushr, 1) := by decide +kernel
theorem c1_46 : qcd 1 46 = some (.iadd, 1) := by decide +kernel
theorem c1_47 : qcd 1 47 = some (.istore_n 0, 1) := by decide +kernel
theorem c1_48 : qcd 1 48 = some (.iload_n 0, 1) := by decide +kernel
theorem c1_49 : qcd 1 49 = some (.bipush 63, 2) := by decide +kernel
theorem c1_51 : qcd 1 51 = some (.iand, 1) := by decide +kernel
theorem c1_52 : qcd 1 52 = some (.ireturn, 1) := by decide +kernel
theorem c2_0 : qcd 2 0 = some (.iconst 0, 1) := by decide +kernel
theorem c2_1 : qcd 2 1 = some (.istore_n 2, 1) := by decide +kernel
theorem c2_2 : qcd 2 2 = some (.aload_n 0, 1) := by decide +kernel
theorem c2_3 : qcd 2 3 = some (.arraylength, 1) := by decide +kernel
theorem c2_4 : qcd 2 4 = some (.istore_n 3, 1) := by decide +kernel
theorem c2_5 : qcd 2 5 = some (.iload_n 2, 1) := by decide +kernel
theorem c2_6 : qcd 2 6 = some (.iload_n 3, 1) := by decide +kernel
theorem c2_7 : qcd 2 7 = some (.if_icmp .ge 13, 3) := by decide +kernel
theorem c2_10 : qcd 2 10 = some (.aload_n 0, 1) := by decide +kernel
theorem c2_11 : qcd 2 11 = some (.iload_n 2, 1) := by decide +kernel
theorem c2_12 : qcd 2 12 = some (.iload_n 1, 1) := by decide +kernel
theorem c2_13 : qcd 2 13 = some (.iastore, 1) := by decide +kernel
theorem c2_14 : qcd 2 14 = some (.iinc 2 1, 3) := by decide +kernel
theorem c2_17 : qcd 2 17 = some (.goto (-12), 3) := by decide +kernel
theorem c2_20 : qcd 2 20 = some (.return_, 1) := by decide +kernel
theorem c3_0 : qcd 3 0 = some (.iconst 0, 1) := by decide +kernel
theorem c3_1 : qcd 3 1 = some (.istore_n 3, 1) := by decide +kernel
theorem c3_2 : qcd 3 2 = some (.aload_n 0, 1) := by decide +kernel
theorem c3_3 : qcd 3 3 = some (.arraylength, 1) := by decide +kernel
theorem c3_4 : qcd 3 4 = some (.istore 4, 2) := by decide +kernel
theorem c3_6 : qcd 3 6 = some (.iload_n 3, 1) := by decide +kernel
theorem c3_7 : qcd 3 7 = some (.iload 4, 2) := by decide +kernel
theorem c3_9 : qcd 3 9 = some (.if_icmp .ge 13, 3) := by decide +kernel
theorem c3_12 : qcd 3 12 = some (.aload_n 0, 1) := by decide +kernel
theorem c3_13 : qcd 3 13 = some (.iload_n 3, 1) := by decide +kernel
theorem c3_14 : qcd 3 14 = some (.lload_n 1, 1) := by decide +kernel
theorem c3_15 : qcd 3 15 = some (.lastore, 1) := by decide +kernel
theorem c3_16 : qcd 3 16 = some (.iinc 3 1, 3) := by decide +kernel
theorem c3_19 : qcd 3 19 = some (.goto (-13), 3) := by decide +kernel
theorem c3_22 : qcd 3 22 = some (.return_, 1) := by decide +kernel
theorem c4_0 : qcd 4 0 = some (.lload_n 0, 1) := by decide +kernel
theorem c4_1 : qcd 4 1 = some (.lconst 0, 1) := by decide +kernel
theorem c4_2 : qcd 4 2 = some (.lcmp, 1) := by decide +kernel
theorem c4_3 : qcd 4 3 = some (.ifCond .ge 8, 3) := by decide +kernel
theorem c4_6 : qcd 4 6 = some (.lload_n 0, 1) := by decide +kernel
theorem c4_7 : qcd 4 7 = some (.lneg, 1) := by decide +kernel
theorem c4_8 : qcd 4 8 = some (.goto 4, 3) := by decide +kernel
theorem c4_11 : qcd 4 11 = some (.lload_n 0, 1) := by decide +kernel
theorem c4_12 : qcd 4 12 = some (.lreturn, 1) := by decide +kernel
theorem c5_0 : qcd 5 0 = some (.lload_n 0, 1) := by decide +kernel
theorem c5_1 : qcd 5 1 = some (.lload_n 2, 1) := by decide +kernel
theorem c5_2 : qcd 5 2 = some (.lcmp, 1) := by decide +kernel
theorem c5_3 : qcd 5 3 = some (.ifCond .lt 7, 3) := by decide +kernel
theorem c5_6 : qcd 5 6 = some (.lload_n 0, 1) := by decide +kernel
theorem c5_7 : qcd 5 7 = some (.goto 4, 3) := by decide +kernel
theorem c5_10 : qcd 5 10 = some (.lload_n 2, 1) := by decide +kernel
theorem c5_11 : qcd 5 11 = some (.lreturn, 1) := by decide +kernel
theorem c6_0 : qcd 6 0 = some (.iload_n 0, 1) := by decide +kernel
theorem c6_1 : qcd 6 1 = some (.iload_n 1, 1) := by decide +kernel
theorem c6_2 : qcd 6 2 = some (.if_icmp .gt 7, 3) := by decide +kernel
theorem c6_5 : qcd 6 5 = some (.iload_n 0, 1) := by decide +kernel
theorem c6_6 : qcd 6 6 = some (.goto 4, 3) := by decide +kernel
theorem c6_9 : qcd 6 9 = some (.iload_n 1, 1) := by decide +kernel
theorem c6_10 : qcd 6 10 = some (.ireturn, 1) := by decide +kernel
theorem c7_0 : qcd 7 0 = some (.lload_n 0, 1) := by decide +kernel
theorem c7_1 : qcd 7 1 = some (.lload_n 2, 1) := by decide +kernel
theorem c7_2 : qcd 7 2 = some (.lcmp, 1) := by decide +kernel
theorem c7_3 : qcd 7 3 = some (.ifCond .gt 7, 3) := by decide +kernel
theorem c7_6 : qcd 7 6 = some (.lload_n 0, 1) := by decide +kernel
theorem c7_7 : qcd 7 7 = some (.goto 4, 3) := by decide +kernel
theorem c7_10 : qcd 7 10 = some (.lload_n 2, 1) := by decide +kernel
theorem c7_11 : qcd 7 11 = some (.lreturn, 1) := by decide +kernel
theorem c8_0 : qcd 8 0 = some (.aload_n 0, 1) := by decide +kernel
theorem c8_1 : qcd 8 1 = some (.getfield 21, 3) := by decide +kernel
theorem c8_4 : qcd 8 4 = some (.aload_n 1, 1) := by decide +kernel
theorem c8_5 : qcd 8 5 = some (.aload_n 2, 1) := by decide +kernel
theorem c8_6 : qcd 8 6 = some (.invokevirtual 25, 3) := by decide +kernel
theorem c8_9 : qcd 8 9 = some (.aload_n 0, 1) := by decide +kernel
theorem c8_10 : qcd 8 10 = some (.getfield 21, 3) := by decide +kernel
theorem c8_13 : qcd 8 13 = some (.getfield 29, 3) := by decide +kernel
theorem c8_16 : qcd 8 16 = some (.istore_n 3, 1) := by decide +kernel
theorem c8_17 : qcd 8 17 = some (.iconst 0, 1) := by decide +kernel
theorem c8_18 : qcd 8 18 = some (.istore 4, 2) := by decide +kernel
theorem c8_20 : qcd 8 20 = some (.aload_n 0, 1) := by decide +kernel
theorem c8_21 : qcd 8 21 = some (.getfield 12, 3) := by decide +kernel
theorem c8_24 : qcd 8 24 = some (.aload_n 2, 1) := by decide +kernel
theorem c8_25 : qcd 8 25 = some (.invokevirtual 33, 3) := by decide +kernel
theorem c8_28 : qcd 8 28 = some (.iconst 0, 1) := by decide +kernel
theorem c8_29 : qcd 8 29 = some (.istore 5, 2) := by decide +kernel
theorem c8_31 : qcd 8 31 = some (.iload 5, 2) := by decide +kernel
theorem c8_33 : qcd 8 33 = some (.aload_n 1, 1) := by decide +kernel
theorem c8_34 : qcd 8 34 = some (.getfield 37, 3) := by decide +kernel
theorem c8_37 : qcd 8 37 = some (.if_icmp .ge 39, 3) := by decide +kernel
theorem c8_40 : qcd 8 40 = some (.aload_n 2, 1) := by decide +kernel
theorem c8_41 : qcd 8 41 = some (.getfield 42, 3) := by decide +kernel
theorem c8_44 : qcd 8 44 = some (.iload 5, 2) := by decide +kernel
theorem c8_46 : qcd 8 46 = some (.iaload, 1) := by decide +kernel
theorem c8_47 : qcd 8 47 = some (.ifCond .ne 23, 3) := by decide +kernel
theorem c8_50 : qcd 8 50 = some (.aload_n 0, 1) := by decide +kernel
theorem c8_51 : qcd 8 51 = some (.aload_n 1, 1) := by decide +kernel
theorem c8_52 : qcd 8 52 = some (.iload 5, 2) := by decide +kernel
theorem c8_54 : qcd 8 54 = some (.iload_n 3, 1) := by decide +kernel
theorem c8_55 : qcd 8 55 = some (.invokevirtual 46, 3) := by decide +kernel
theorem c8_58 : qcd 8 58 = some (.ifCond .eq 12, 3) := by decide +kernel
theorem c8_61 : qcd 8 61 = some (.iload 4, 2) := by decide +kernel
theorem c8_63 : qcd 8 63 = some (.iconst 1, 1) := by decide +kernel
theorem c8_64 : qcd 8 64 = some (.iload 5, 2) := by decide +kernel
theorem c8_66 : qcd 8 66 = some (.ishl, 1) := by decide +kernel
theorem c8_67 : qcd 8 67 = some (.ior, 1) := by decide +kernel
theorem c8_68 : qcd 8 68 = some (.istore 4, 2) := by decide +kernel
theorem c8_70 : qcd 8 70 = some (.iinc 5 1, 3) := by decide +kernel
theorem c8_73 : qcd 8 73 = some (.goto (-42), 3) := by decide +kernel
theorem c8_76 : qcd 8 76 = some (.iload 4, 2) := by decide +kernel
theorem c8_78 : qcd 8 78 = some (.ireturn, 1) := by decide +kernel
theorem c9_0 : qcd 9 0 = some (.aload_n 0, 1) := by decide +kernel
theorem c9_1 : qcd 9 1 = some (.getfield 12, 3) := by decide +kernel
theorem c9_4 : qcd 9 4 = some (.getfield 42, 3) := by decide +kernel
theorem c9_7 : qcd 9 7 = some (.iload_n 2, 1) := by decide +kernel
theorem c9_8 : qcd 9 8 = some (.iconst 1, 1) := by decide +kernel
theorem c9_9 : qcd 9 9 = some (.iastore, 1) := by decide +kernel
theorem c9_10 : qcd 9 10 = some (.aload_n 0, 1) := by decide +kernel
theorem c9_11 : qcd 9 11 = some (.getfield 21, 3) := by decide +kernel
theorem c9_14 : qcd 9 14 = some (.aload_n 1, 1) := by decide +kernel
theorem c9_15 : qcd 9 15 = some (.aload_n 0, 1) := by decide +kernel
theorem c9_16 : qcd 9 16 = some (.getfield 12, 3) := by decide +kernel
theorem c9_19 : qcd 9 19 = some (.invokevirtual 25, 3) := by decide +kernel
theorem c9_22 : qcd 9 22 = some (.aload_n 0, 1) := by decide +kernel
theorem c9_23 : qcd 9 23 = some (.getfield 12, 3) := by decide +kernel
theorem c9_26 : qcd 9 26 = some (.getfield 42, 3) := by decide +kernel
theorem c9_29 : qcd 9 29 = some (.iload_n 2, 1) := by decide +kernel
theorem c9_30 : qcd 9 30 = some (.iconst 0, 1) := by decide +kernel
theorem c9_31 : qcd 9 31 = some (.iastore, 1) := by decide +kernel
theorem c9_32 : qcd 9 32 = some (.aload_n 0, 1) := by decide +kernel
theorem c9_33 : qcd 9 33 = some (.getfield 21, 3) := by decide +kernel
theorem c9_36 : qcd 9 36 = some (.getfield 50, 3) := by decide +kernel
theorem c9_39 : qcd 9 39 = some (.ifCond .ne 17, 3) := by decide +kernel
theorem c9_42 : qcd 9 42 = some (.aload_n 0, 1) := by decide +kernel
theorem c9_43 : qcd 9 43 = some (.getfield 21, 3) := by decide +kernel
theorem c9_46 : qcd 9 46 = some (.getfield 29, 3) := by decide +kernel
theorem c9_49 : qcd 9 49 = some (.iload_n 3, 1) := by decide +kernel
theorem c9_50 : qcd 9 50 = some (.iconst (-1), 1) := by decide +kernel
theorem c9_51 : qcd 9 51 = some (.ixor, 1) := by decide +kernel
theorem c9_52 : qcd 9 52 = some (.iand, 1) := by decide +kernel
theorem c9_53 : qcd 9 53 = some (.ifCond .eq 7, 3) := by decide +kernel
theorem c9_56 : qcd 9 56 = some (.iconst 1, 1) := by decide +kernel
theorem c9_57 : qcd 9 57 = some (.goto 4, 3) := by decide +kernel
theorem c9_60 : qcd 9 60 = some (.iconst 0, 1) := by decide +kernel
theorem c9_61 : qcd 9 61 = some (.ireturn, 1) := by decide +kernel
theorem c10_0 : qcd 10 0 = some (.aload_n 0, 1) := by decide +kernel
theorem c10_1 : qcd 10 1 = some (.invokespecial 3, 3) := by decide +kernel
theorem c10_4 : qcd 10 4 = some (.aload_n 0, 1) := by decide +kernel
theorem c10_5 : qcd 10 5 = some (.new 9, 3) := by decide +kernel
theorem c10_8 : qcd 10 8 = some (.dup, 1) := by decide +kernel
theorem c10_9 : qcd 10 9 = some (.invokespecial 11, 3) := by decide +kernel
theorem c10_12 : qcd 10 12 = some (.putfield 12, 3) := by decide +kernel
theorem c10_15 : qcd 10 15 = some (.aload_n 0, 1) := by decide +kernel
theorem c10_16 : qcd 10 16 = some (.new 18, 3) := by decide +kernel
theorem c10_19 : qcd 10 19 = some (.dup, 1) := by decide +kernel
theorem c10_20 : qcd 10 20 = some (.invokespecial 20, 3) := by decide +kernel
theorem c10_23 : qcd 10 23 = some (.putfield 21, 3) := by decide +kernel
theorem c10_26 : qcd 10 26 = some (.return_, 1) := by decide +kernel
theorem c11_0 : qcd 11 0 = some (.aload_n 2, 1) := by decide +kernel
theorem c11_1 : qcd 11 1 = some (.getfield 42, 3) := by decide +kernel
theorem c11_4 : qcd 11 4 = some (.iload_n 3, 1) := by decide +kernel
theorem c11_5 : qcd 11 5 = some (.iaload, 1) := by decide +kernel
theorem c11_6 : qcd 11 6 = some (.ifCond .eq 5, 3) := by decide +kernel
theorem c11_9 : qcd 11 9 = some (.iconst 0, 1) := by decide +kernel
theorem c11_10 : qcd 11 10 = some (.ireturn, 1) := by decide +kernel
theorem c11_11 : qcd 11 11 = some (.aload_n 0, 1) := by decide +kernel
theorem c11_12 : qcd 11 12 = some (.getfield 21, 3) := by decide +kernel
theorem c11_15 : qcd 11 15 = some (.aload_n 1, 1) := by decide +kernel
theorem c11_16 : qcd 11 16 = some (.aload_n 2, 1) := by decide +kernel
theorem c11_17 : qcd 11 17 = some (.invokevirtual 25, 3) := by decide +kernel
theorem c11_20 : qcd 11 20 = some (.aload_n 0, 1) := by decide +kernel
theorem c11_21 : qcd 11 21 = some (.getfield 12, 3) := by decide +kernel
theorem c11_24 : qcd 11 24 = some (.aload_n 2, 1) := by decide +kernel
theorem c11_25 : qcd 11 25 = some (.invokevirtual 33, 3) := by decide +kernel
theorem c11_28 : qcd 11 28 = some (.aload_n 0, 1) := by decide +kernel
theorem c11_29 : qcd 11 29 = some (.aload_n 1, 1) := by decide +kernel
theorem c11_30 : qcd 11 30 = some (.iload_n 3, 1) := by decide +kernel
theorem c11_31 : qcd 11 31 = some (.aload_n 0, 1) := by decide +kernel
theorem c11_32 : qcd 11 32 = some (.getfield 21, 3) := by decide +kernel
theorem c11_35 : qcd 11 35 = some (.getfield 29, 3) := by decide +kernel
theorem c11_38 : qcd 11 38 = some (.invokevirtual 46, 3) := by decide +kernel
theorem c11_41 : qcd 11 41 = some (.ifCond .eq 7, 3) := by decide +kernel
theorem c11_44 : qcd 11 44 = some (.iconst 1, 1) := by decide +kernel
theorem c11_45 : qcd 11 45 = some (.goto 4, 3) := by decide +kernel
theorem c11_48 : qcd 11 48 = some (.iconst 0, 1) := by decide +kernel
theorem c11_49 : qcd 11 49 = some (.ireturn, 1) := by decide +kernel
theorem c12_0 : qcd 12 0 = some (.aload_n 0, 1) := by decide +kernel
theorem c12_1 : qcd 12 1 = some (.invokevirtual 74, 3) := by decide +kernel
theorem c12_4 : qcd 12 4 = some (.istore_n 1, 1) := by decide +kernel
theorem c12_5 : qcd 12 5 = some (.iload_n 1, 1) := by decide +kernel
theorem c12_6 : qcd 12 6 = some (.bipush 116, 2) := by decide +kernel
theorem c12_8 : qcd 12 8 = some (.if_icmp .eq 15, 3) := by decide +kernel
theorem c12_11 : qcd 12 11 = some (.iload_n 1, 1) := by decide +kernel
theorem c12_12 : qcd 12 12 = some (.bipush 111, 2) := by decide +kernel
theorem c12_14 : qcd 12 14 = some (.if_icmp .eq 9, 3) := by decide +kernel
theorem c12_17 : qcd 12 17 = some (.aload_n 0, 1) := by decide +kernel
theorem c12_18 : qcd 12 18 = some (.iconst 1, 1) := by decide +kernel
theorem c12_19 : qcd 12 19 = some (.invokevirtual 78, 3) := by decide +kernel
theorem c12_22 : qcd 12 22 = some (.ireturn, 1) := by decide +kernel
theorem c12_23 : qcd 12 23 = some (.aload_n 0, 1) := by decide +kernel
theorem c12_24 : qcd 12 24 = some (.getfield 48, 3) := by decide +kernel
theorem c12_27 : qcd 12 27 = some (.bipush 12, 2) := by decide +kernel
theorem c12_29 : qcd 12 29 = some (.if_icmp .lt 9, 3) := by decide +kernel
theorem c12_32 : qcd 12 32 = some (.aload_n 0, 1) := by decide +kernel
theorem c12_33 : qcd 12 33 = some (.iconst 4, 1) := by decide +kernel
theorem c12_34 : qcd 12 34 = some (.invokevirtual 78, 3) := by decide +kernel
theorem c12_37 : qcd 12 37 = some (.ireturn, 1) := by decide +kernel
theorem c12_38 : qcd 12 38 = some (.aload_n 0, 1) := by decide +kernel
theorem c12_39 : qcd 12 39 = some (.iload_n 1, 1) := by decide +kernel
theorem c12_40 : qcd 12 40 = some (.bipush 111, 2) := by decide +kernel
theorem c12_42 : qcd 12 42 = some (.if_icmp .ne 7, 3) := by decide +kernel
theorem c12_45 : qcd 12 45 = some (.iconst 1, 1) := by decide +kernel
theorem c12_46 : qcd 12 46 = some (.goto 4, 3) := by decide +kernel
theorem c12_49 : qcd 12 49 = some (.iconst 0, 1) := by decide +kernel
theorem c12_50 : qcd 12 50 = some (.putfield 81, 3) := by decide +kernel
theorem c12_53 : qcd 12 53 = some (.aload_n 0, 1) := by decide +kernel
theorem c12_54 : qcd 12 54 = some (.dup, 1) := by decide +kernel
theorem c12_55 : qcd 12 55 = some (.getfield 57, 3) := by decide +kernel
theorem c12_58 : qcd 12 58 = some (.iconst 1, 1) := by decide +kernel
theorem c12_59 : qcd 12 59 = some (.iadd, 1) := by decide +kernel
theorem c12_60 : qcd 12 60 = some (.putfield 57, 3) := by decide +kernel
theorem c12_63 : qcd 12 63 = some (.iconst 1, 1) := by decide +kernel
theorem c12_64 : qcd 12 64 = some (.ireturn, 1) := by decide +kernel
theorem c13_0 : qcd 13 0 = some (.aload_n 0, 1) := by decide +kernel
theorem c13_1 : qcd 13 1 = some (.getfield 54, 3) := by decide +kernel
theorem c13_4 : qcd 13 4 = some (.istore_n 2, 1) := by decide +kernel
theorem c13_5 : qcd 13 5 = some (.aload_n 0, 1) := by decide +kernel
theorem c13_6 : qcd 13 6 = some (.getfield 54, 3) := by decide +kernel
theorem c13_9 : qcd 13 9 = some (.istore_n 3, 1) := by decide +kernel
theorem c13_10 : qcd 13 10 = some (.aload_n 0, 1) := by decide +kernel
theorem c13_11 : qcd 13 11 = some (.getfield 38, 3) := by decide +kernel
theorem c13_14 : qcd 13 14 = some (.istore 4, 2) := by decide +kernel
theorem c13_16 : qcd 13 16 = some (.iload 4, 2) := by decide +kernel
theorem c13_18 : qcd 13 18 = some (.ifCond .le 87, 3) := by decide +kernel
theorem c13_21 : qcd 13 21 = some (.aload_n 0, 1) := by decide +kernel
theorem c13_22 : qcd 13 22 = some (.iload_n 1, 1) := by decide +kernel
theorem c13_23 : qcd 13 23 = some (.invokevirtual 85, 3) := by decide +kernel
theorem c13_26 : qcd 13 26 = some (.ifCond .ne 5, 3) := by decide +kernel
theorem c13_29 : qcd 13 29 = some (.iconst 0, 1) := by decide +kernel
theorem c13_30 : qcd 13 30 = some (.ireturn, 1) := by decide +kernel
theorem c13_31 : qcd 13 31 = some (.aload_n 0, 1) := by decide +kernel
theorem c13_32 : qcd 13 32 = some (.invokevirtual 74, 3) := by decide +kernel
theorem c13_35 : qcd 13 35 = some (.istore 5, 2) := by decide +kernel
theorem c13_37 : qcd 13 37 = some (.iload 5, 2) := by decide +kernel
theorem c13_39 : qcd 13 39 = some (.bipush 38, 2) := by decide +kernel
theorem c13_41 : qcd 13 41 = some (.if_icmp .ne 13, 3) := by decide +kernel
theorem c13_44 : qcd 13 44 = some (.aload_n 0, 1) := by decide +kernel
theorem c13_45 : qcd 13 45 = some (.bipush 38, 2) := by decide +kernel
theorem c13_47 : qcd 13 47 = some (.iconst (-1), 1) := by decide +kernel
theorem c13_48 : qcd 13 48 = some (.invokevirtual 88, 3) := by decide +kernel
theorem c13_51 : qcd 13 51 = some (.goto 38, 3) := by decide +kernel
theorem c13_54 : qcd 13 54 = some (.aload_n 0, 1) := by decide +kernel
theorem c13_55 : qcd 13 55 = some (.iload_n 3, 1) := by decide +kernel
theorem c13_56 : qcd 13 56 = some (.bipush 38, 2) := by decide +kernel
theorem c13_58 : qcd 13 58 = some (.invokevirtual 92, 3) := by decide +kernel
theorem c13_61 : qcd 13 61 = some (.iload 5, 2) := by decide +kernel
theorem c13_63 : qcd 13 63 = some (.bipush 124, 2) := by decide +kernel
theorem c13_65 : qcd 13 65 = some (.if_icmp .eq 12, 3) := by decide +kernel
theorem c13_68 : qcd 13 68 = some (.aload_n 0, 1) := by decide +kernel
theorem c13_69 : qcd 13 69 = some (.iload_n 2, 1) := by decide +kernel
theorem c13_70 : qcd 13 70 = some (.bipush 124, 2) := by decide +kernel
theorem c13_72 : qcd 13 72 = some (.invokevirtual 92, 3) := by decide +kernel
theorem c13_75 : qcd 13 75 = some (.iconst 1, 1) := by decide +kernel
theorem c13_76 : qcd 13 76 = some (.ireturn, 1) := by decide +kernel
theorem c13_77 : qcd 13 77 = some (.aload_n 0, 1) := by decide +kernel
theorem c13_78 : qcd 13 78 = some (.bipush 124, 2) := by decide +kernel
theorem c13_80 : qcd 13 80 = some (.iconst (-1), 1) := by decide +kernel
theorem c13_81 : qcd 13 81 = some (.invokevirtual 88, 3) := by decide +kernel
theorem c13_84 : qcd 13 84 = some (.aload_n 0, 1) := by decide +kernel
theorem c13_85 : qcd 13 85 = some (.getfield 54, 3) := by decide +kernel
theorem c13_88 : qcd 13 88 = some (.istore_n 3, 1) := by decide +kernel
theorem c13_89 : qcd 13 89 = some (.aload_n 0, 1) := by decide +kernel
theorem c13_90 : qcd 13 90 = some (.dup, 1) := by decide +kernel
theorem c13_91 : qcd 13 91 = some (.getfield 57, 3) := by decide +kernel
theorem c13_94 : qcd 13 94 = some (.iconst 1, 1) := by decide +kernel
theorem c13_95 : qcd 13 95 = some (.iadd, 1) := by decide +kernel
theorem c13_96 : qcd 13 96 = some (.putfield 57, 3) := by decide +kernel
theorem c13_99 : qcd 13 99 = some (.iinc 4 (-1), 3) := by decide +kernel
theorem c13_102 : qcd 13 102 = some (.goto (-86), 3) := by decide +kernel
theorem c13_105 : qcd 13 105 = some (.aload_n 0, 1) := by decide +kernel
theorem c13_106 : qcd 13 106 = some (.iconst 1, 1) := by decide +kernel
theorem c13_107 : qcd 13 107 = some (.invokevirtual 78, 3) := by decide +kernel
theorem c13_110 : qcd 13 110 = some (.ireturn, 1) := by decide +kernel
theorem c14_0 : qcd 14 0 = some (.aload_n 0, 1) := by decide +kernel
theorem c14_1 : qcd 14 1 = some (.getfield 54, 3) := by decide +kernel
theorem c14_4 : qcd 14 4 = some (.sipush 320, 3) := by decide +kernel
theorem c14_7 : qcd 14 7 = some (.if_icmp .ge 33, 3) := by decide +kernel
theorem c14_10 : qcd 14 10 = some (.aload_n 0, 1) := by decide +kernel
theorem c14_11 : qcd 14 11 = some (.getfield 15, 3) := by decide +kernel
theorem c14_14 : qcd 14 14 = some (.aload_n 0, 1) := by decide +kernel
theorem c14_15 : qcd 14 15 = some (.getfield 54, 3) := by decide +kernel
theorem c14_18 : qcd 14 18 = some (.iload_n 1, 1) := by decide +kernel
theorem c14_19 : qcd 14 19 = some (.iastore, 1) := by decide +kernel
theorem c14_20 : qcd 14 20 = some (.aload_n 0, 1) := by decide +kernel
theorem c14_21 : qcd 14 21 = some (.getfield 18, 3) := by decide +kernel
theorem c14_24 : qcd 14 24 = some (.aload_n 0, 1) := by decide +kernel
theorem c14_25 : qcd 14 25 = some (.getfield 54, 3) := by decide +kernel
theorem c14_28 : qcd 14 28 = some (.iload_n 2, 1) := by decide +kernel
theorem c14_29 : qcd 14 29 = some (.iastore, 1) := by decide +kernel
theorem c14_30 : qcd 14 30 = some (.aload_n 0, 1) := by decide +kernel
theorem c14_31 : qcd 14 31 = some (.dup, 1) := by decide +kernel
theorem c14_32 : qcd 14 32 = some (.getfield 54, 3) := by decide +kernel
theorem c14_35 : qcd 14 35 = some (.iconst 1, 1) := by decide +kernel
theorem c14_36 : qcd 14 36 = some (.iadd, 1) := by decide +kernel
theorem c14_37 : qcd 14 37 = some (.putfield 54, 3) := by decide +kernel
theorem c14_40 : qcd 14 40 = some (.return_, 1) := by decide +kernel
theorem c15_0 : qcd 15 0 = some (.aload_n 0, 1) := by decide +kernel
theorem c15_1 : qcd 15 1 = some (.invokevirtual 74, 3) := by decide +kernel
theorem c15_4 : qcd 15 4 = some (.istore_n 2, 1) := by decide +kernel
theorem c15_5 : qcd 15 5 = some (.iload_n 2, 1) := by decide +kernel
theorem c15_6 : qcd 15 6 = some (.bipush 91, 2) := by decide +kernel
theorem c15_8 : qcd 15 8 = some (.if_icmp .ne 50, 3) := by decide +kernel
theorem c15_11 : qcd 15 11 = some (.iload_n 1, 1) := by decide +kernel
theorem c15_12 : qcd 15 12 = some (.bipush 6, 2) := by decide +kernel
theorem c15_14 : qcd 15 14 = some (.if_icmp .lt 9, 3) := by decide +kernel
theorem c15_17 : qcd 15 17 = some (.aload_n 0, 1) := by decide +kernel
theorem c15_18 : qcd 15 18 = some (.iconst 5, 1) := by decide +kernel
theorem c15_19 : qcd 15 19 = some (.invokevirtual 78, 3) := by decide +kernel
theorem c15_22 : qcd 15 22 = some (.ireturn, 1) := by decide +kernel
theorem c15_23 : qcd 15 23 = some (.aload_n 0, 1) := by decide +kernel
theorem c15_24 : qcd 15 24 = some (.dup, 1) := by decide +kernel
theorem c15_25 : qcd 15 25 = some (.getfield 57, 3) := by decide +kernel
theorem c15_28 : qcd 15 28 = some (.iconst 1, 1) := by decide +kernel
theorem c15_29 : qcd 15 29 = some (.iadd, 1) := by decide +kernel
theorem c15_30 : qcd 15 30 = some (.putfield 57, 3) := by decide +kernel
theorem c15_33 : qcd 15 33 = some (.aload_n 0, 1) := by decide +kernel
theorem c15_34 : qcd 15 34 = some (.iload_n 1, 1) := by decide +kernel
theorem c15_35 : qcd 15 35 = some (.iconst 1, 1) := by decide +kernel
theorem c15_36 : qcd 15 36 = some (.iadd, 1) := by decide +kernel
theorem c15_37 : qcd 15 37 = some (.invokevirtual 95, 3) := by decide +kernel
theorem c15_40 : qcd 15 40 = some (.ifCond .eq 16, 3) := by decide +kernel
theorem c15_43 : qcd 15 43 = some (.aload_n 0, 1) := by decide +kernel
theorem c15_44 : qcd 15 44 = some (.bipush 93, 2) := by decide +kernel
theorem c15_46 : qcd 15 46 = some (.invokevirtual 64, 3) := by decide +kernel
theorem c15_49 : qcd 15 49 = some (.ifCond .eq 7, 3) := by decide +kernel
theorem c15_52 : qcd 15 52 = some (.iconst 1, 1) := by decide +kernel
theorem c15_53 : qcd 15 53 = some (.goto 4, 3) := by decide +kernel
theorem c15_56 : qcd 15 56 = some (.iconst 0, 1) := by decide +kernel
theorem c15_57 : qcd 15 57 = some (.ireturn, 1) := by decide +kernel
theorem c15_58 : qcd 15 58 = some (.iload_n 2, 1) := by decide +kernel
theorem c15_59 : qcd 15 59 = some (.invokestatic 101, 3) := by decide +kernel
theorem c15_62 : qcd 15 62 = some (.ifCond .eq 8, 3) := by decide +kernel
theorem c15_65 : qcd 15 65 = some (.aload_n 0, 1) := by decide +kernel
theorem c15_66 : qcd 15 66 = some (.invokevirtual 104, 3) := by decide +kernel
theorem c15_69 : qcd 15 69 = some (.ireturn, 1) := by decide +kernel
theorem c15_70 : qcd 15 70 = some (.iconst 0, 1) := by decide +kernel
theorem c15_71 : qcd 15 71 = some (.istore_n 3, 1) := by decide +kernel
theorem c15_72 : qcd 15 72 = some (.iload_n 3, 1) := by decide +kernel
theorem c15_73 : qcd 15 73 = some (.bipush 11, 2) := by decide +kernel
theorem c15_75 : qcd 15 75 = some (.if_icmp .ge 45, 3) := by decide +kernel
theorem c15_78 : qcd 15 78 = some (.getstatic 107, 3) := by decide +kernel
theorem c15_81 : qcd 15 81 = some (.iload_n 3, 1) := by decide +kernel
theorem c15_82 : qcd 15 82 = some (.caload, 1) := by decide +kernel
theorem c15_83 : qcd 15 83 = some (.iload_n 2, 1) := by decide +kernel
theorem c15_84 : qcd 15 84 = some (.if_icmp .ne 30, 3) := by decide +kernel
theorem c15_87 : qcd 15 87 = some (.aload_n 0, 1) := by decide +kernel
theorem c15_88 : qcd 15 88 = some (.iload_n 3, 1) := by decide +kernel
theorem c15_89 : qcd 15 89 = some (.invokevirtual 111, 3) := by decide +kernel
theorem c15_92 : qcd 15 92 = some (.ifCond .eq 22, 3) := by decide +kernel
theorem c15_95 : qcd 15 95 = some (.aload_n 0, 1) := by decide +kernel
theorem c15_96 : qcd 15 96 = some (.bipush 97, 2) := by decide +kernel
theorem c15_98 : qcd 15 98 = some (.iload_n 3, 1) := by decide +kernel
theorem c15_99 : qcd 15 99 = some (.invokevirtual 88, 3) := by decide +kernel
theorem c15_102 : qcd 15 102 = some (.aload_n 0, 1) := by decide +kernel
theorem c15_103 : qcd 15 103 = some (.dup, 1) := by decide +kernel
theorem c15_104 : qcd 15 104 = some (.getfield 57, 3) := by decide +kernel
theorem c15_107 : qcd 15 107 = some (.iconst 1, 1) := by decide +kernel
theorem c15_108 : qcd 15 108 = some (.iadd, 1) := by decide +kernel
theorem c15_109 : qcd 15 109 = some (.putfield 57, 3) := by decide +kernel
theorem c15_112 : qcd 15 112 = some (.iconst 1, 1) := by decide +kernel
theorem c15_113 : qcd 15 113 = some (.ireturn, 1) := by decide +kernel
theorem c15_114 : qcd 15 114 = some (.iinc 3 1, 3) := by decide +kernel
theorem c15_117 : qcd 15 117 = some (.goto (-45), 3) := by decide +kernel
theorem c15_120 : qcd 15 120 = some (.aload_n 0, 1) := by decide +kernel
theorem c15_121 : qcd 15 121 = some (.iconst 1, 1) := by decide +kernel
theorem c15_122 : qcd 15 122 = some (.invokevirtual 78, 3) := by decide +kernel
theorem c15_125 : qcd 15 125 = some (.ireturn, 1) := by decide +kernel
theorem c16_0 : qcd 16 0 = some (.iconst 0, 1) := by decide +kernel
theorem c16_1 : qcd 16 1 = some (.istore_n 3, 1) := by decide +kernel
theorem c16_2 : qcd 16 2 = some (.iconst 0, 1) := by decide +kernel
theorem c16_3 : qcd 16 3 = some (.istore 4, 2) := by decide +kernel
theorem c16_5 : qcd 16 5 = some (.iload 4, 2) := by decide +kernel
theorem c16_7 : qcd 16 7 = some (.aload_n 0, 1) := by decide +kernel
theorem c16_8 : qcd 16 8 = some (.getfield 48, 3) := by decide +kernel
theorem c16_11 : qcd 16 11 = some (.if_icmp .ge 46, 3) := by decide +kernel
theorem c16_14 : qcd 16 14 = some (.aload_n 0, 1) := by decide +kernel
theorem c16_15 : qcd 16 15 = some (.getfield 24, 3) := by decide +kernel
theorem c16_18 : qcd 16 18 = some (.iload 4, 2) := by decide +kernel
theorem c16_20 : qcd 16 20 = some (.baload, 1) := by decide +kernel
theorem c16_21 : qcd 16 21 = some (.iload_n 1, 1) := by decide +kernel
theorem c16_22 : qcd 16 22 = some (.if_icmp .ne 21, 3) := by decide +kernel
theorem c16_25 : qcd 16 25 = some (.aload_n 0, 1) := by decide +kernel
theorem c16_26 : qcd 16 26 = some (.iload_n 3, 1) := by decide +kernel
theorem c16_27 : qcd 16 27 = some (.aload_n 0, 1) := by decide +kernel
theorem c16_28 : qcd 16 28 = some (.getfield 21, 3) := by decide +kernel
theorem c16_31 : qcd 16 31 = some (.iload 4, 2) := by decide +kernel
theorem c16_33 : qcd 16 33 = some (.iaload, 1) := by decide +kernel
theorem c16_34 : qcd 16 34 = some (.aload_n 2, 1) := by decide +kernel
theorem c16_35 : qcd 16 35 = some (.invokevirtual 114, 3) := by decide +kernel
theorem c16_38 : qcd 16 38 = some (.ifCond .eq 5, 3) := by decide +kernel
theorem c16_41 : qcd 16 41 = some (.iconst 1, 1) := by decide +kernel
theorem c16_42 : qcd 16 42 = some (.ireturn, 1) := by decide +kernel
theorem c16_43 : qcd 16 43 = some (.aload_n 0, 1) := by decide +kernel
theorem c16_44 : qcd 16 44 = some (.getfield 21, 3) := by decide +kernel
theorem c16_47 : qcd 16 47 = some (.iload 4, 2) := by decide +kernel
theorem c16_49 : qcd 16 49 = some (.iaload, 1) := by decide +kernel
theorem c16_50 : qcd 16 50 = some (.istore_n 3, 1) := by decide +kernel
theorem c16_51 : qcd 16 51 = some (.iinc 4 1, 3) := by decide +kernel
theorem c16_54 : qcd 16 54 = some (.goto (-49), 3) := by decide +kernel
theorem c16_57 : qcd 16 57 = some (.iconst 0, 1) := by decide +kernel
theorem c16_58 : qcd 16 58 = some (.ireturn, 1) := by decide +kernel
theorem c17_0 : qcd 17 0 = some (.iconst 0, 1) := by decide +kernel
theorem c17_1 : qcd 17 1 = some (.istore 4, 2) := by decide +kernel
theorem c17_3 : qcd 17 3 = some (.iload_n 1, 1) := by decide +kernel
theorem c17_4 : qcd 17 4 = some (.istore 5, 2) := by decide +kernel
theorem c17_6 : qcd 17 6 = some (.iconst 0, 1) := by decide +kernel
theorem c17_7 : qcd 17 7 = some (.istore 6, 2) := by decide +kernel
theorem c17_9 : qcd 17 9 = some (.iload_n 1, 1) := by decide +kernel
theorem c17_10 : qcd 17 10 = some (.istore 7, 2) := by decide +kernel
theorem c17_12 : qcd 17 12 = some (.iload 7, 2) := by decide +kernel
theorem c17_14 : qcd 17 14 = some (.iload_n 2, 1) := by decide +kernel
theorem c17_15 : qcd 17 15 = some (.if_icmp .ge 333, 3) := by decide +kernel
theorem c17_18 : qcd 17 18 = some (.iload 7, 2) := by decide +kernel
theorem c17_20 : qcd 17 20 = some (.iload 5, 2) := by decide +kernel
theorem c17_22 : qcd 17 22 = some (.if_icmp .ge 6, 3) := by decide +kernel
theorem c17_25 : qcd 17 25 = some (.goto 317, 3) := by decide +kernel
theorem c17_28 : qcd 17 28 = some (.aload_n 0, 1) := by decide +kernel
theorem c17_29 : qcd 17 29 = some (.getfield 15, 3) := by decide +kernel
theorem c17_32 : qcd 17 32 = some (.iload 7, 2) := by decide +kernel
theorem c17_34 : qcd 17 34 = some (.iaload, 1) := by decide +kernel
theorem c17_35 : qcd 17 35 = some (.istore 8, 2) := by decide +kernel
theorem c17_37 : qcd 17 37 = some (.iload 8, 2) := by decide +kernel
theorem c17_39 : qcd 17 39 = some (.bipush 48, 2) := by decide +kernel
theorem c17_41 : qcd 17 41 = some (.if_icmp .eq 10, 3) := by decide +kernel
theorem c17_44 : qcd 17 44 = some (.iload 8, 2) := by decide +kernel
theorem c17_46 : qcd 17 46 = some (.bipush 97, 2) := by decide +kernel
theorem c17_48 : qcd 17 48 = some (.if_icmp .ne 52, 3) := by decide +kernel
theorem c17_51 : qcd 17 51 = some (.iload 6, 2) := by decide +kernel
theorem c17_53 : qcd 17 53 = some (.bipush 32, 2) := by decide +kernel
theorem c17_55 : qcd 17 55 = some (.if_icmp .lt 5, 3) := by decide +kernel
theorem c17_58 : qcd 17 58 = some (.iconst 0, 1) := by decide +kernel
theorem c17_59 : qcd 17 59 = some (.ireturn, 1) := by decide +kernel
theorem c17_60 : qcd 17 60 = some (.aload_n 0, 1) := by decide +kernel
theorem c17_61 : qcd 17 61 = some (.getfield 28, 3) := by decide +kernel
theorem c17_64 : qcd 17 64 = some (.iload 6, 2) := by decide +kernel
theorem c17_66 : qcd 17 66 = some (.iload 8, 2) := by decide +kernel
theorem c17_68 : qcd 17 68 = some (.bipush 48, 2) := by decide +kernel
theorem c17_70 : qcd 17 70 = some (.if_icmp .ne 14, 3) := by decide +kernel
theorem c17_73 : qcd 17 73 = some (.aload_n 0, 1) := by decide +kernel
theorem c17_74 : qcd 17 74 = some (.getfield 18, 3) := by decide +kernel
theorem c17_77 : qcd 17 77 = some (.iload 7, 2) := by decide +kernel
theorem c17_79 : qcd 17 79 = some (.iaload, 1) := by decide +kernel
theorem c17_80 : qcd 17 80 = some (.i2l, 1) := by decide +kernel
theorem c17_81 : qcd 17 81 = some (.goto 12, 3) := by decide +kernel
theorem c17_84 : qcd 17 84 = some (.aload_n 3, 1) := by decide +kernel
theorem c17_85 : qcd 17 85 = some (.aload_n 0, 1) := by decide +kernel
theorem c17_86 : qcd 17 86 = some (.getfield 18, 3) := by decide +kernel
theorem c17_89 : qcd 17 89 = some (.iload 7, 2) := by decide +kernel
theorem c17_91 : qcd 17 91 = some (.iaload, 1) := by decide +kernel
theorem c17_92 : qcd 17 92 = some (.laload, 1) := by decide +kernel
theorem c17_93 : qcd 17 93 = some (.lastore, 1) := by decide +kernel
theorem c17_94 : qcd 17 94 = some (.iinc 6 1, 3) := by decide +kernel
theorem c17_97 : qcd 17 97 = some (.goto 245, 3) := by decide +kernel
theorem c17_100 : qcd 17 100 = some (.iload 8, 2) := by decide +kernel
theorem c17_102 : qcd 17 102 = some (.bipush 33, 2) := by decide +kernel
theorem c17_104 : qcd 17 104 = some (.if_icmp .ne 18, 3) := by decide +kernel
theorem c17_107 : qcd 17 107 = some (.iload 4, 2) := by decide +kernel
theorem c17_109 : qcd 17 109 = some (.ifCond .ne 7, 3) := by decide +kernel
theorem c17_112 : qcd 17 112 = some (.iconst 1, 1) := by decide +kernel
theorem c17_113 : qcd 17 113 = some (.goto 4, 3) := by decide +kernel
theorem c17_116 : qcd 17 116 = some (.iconst 0, 1) := by decide +kernel
theorem c17_117 : qcd 17 117 = some (.istore 4, 2) := by decide +kernel
theorem c17_119 : qcd 17 119 = some (.goto 223, 3) := by decide +kernel
theorem c17_122 : qcd 17 122 = some (.iload 8, 2) := by decide +kernel
theorem c17_124 : qcd 17 124 = some (.bipush 38, 2) := by decide +kernel
theorem c17_126 : qcd 17 126 = some (.if_icmp .ne 25, 3) := by decide +kernel
theorem c17_129 : qcd 17 129 = some (.iload 4, 2) := by decide +kernel
theorem c17_131 : qcd 17 131 = some (.ifCond .eq 8, 3) := by decide +kernel
theorem c17_134 : qcd 17 134 = some (.iload 5, 2) := by decide +kernel
theorem c17_136 : qcd 17 136 = some (.goto 10, 3) := by decide +kernel
theorem c17_139 : qcd 17 139 = some (.aload_n 0, 1) := by decide +kernel
theorem c17_140 : qcd 17 140 = some (.getfield 18, 3) := by decide +kernel
theorem c17_143 : qcd 17 143 = some (.iload 7, 2) := by decide +kernel
theorem c17_145 : qcd 17 145 = some (.iaload, 1) := by decide +kernel
theorem c17_146 : qcd 17 146 = some (.istore 5, 2) := by decide +kernel
theorem c17_148 : qcd 17 148 = some (.goto 194, 3) := by decide +kernel
theorem c17_151 : qcd 17 151 = some (.iload 8, 2) := by decide +kernel
theorem c17_153 : qcd 17 153 = some (.bipush 124, 2) := by decide +kernel
theorem c17_155 : qcd 17 155 = some (.if_icmp .ne 25, 3) := by decide +kernel
theorem c17_158 : qcd 17 158 = some (.iload 4, 2) := by decide +kernel
theorem c17_160 : qcd 17 160 = some (.ifCond .eq 13, 3) := by decide +kernel
theorem c17_163 : qcd 17 163 = some (.aload_n 0, 1) := by decide +kernel
theorem c17_164 : qcd 17 164 = some (.getfield 18, 3) := by decide +kernel
theorem c17_167 : qcd 17 167 = some (.iload 7, 2) := by decide +kernel
theorem c17_169 : qcd 17 169 = some (.iaload, 1) := by decide +kernel
theorem c17_170 : qcd 17 170 = some (.goto 5, 3) := by decide +kernel
theorem c17_173 : qcd 17 173 = some (.iload 5, 2) := by decide +kernel
theorem c17_175 : qcd 17 175 = some (.istore 5, 2) := by decide +kernel
theorem c17_177 : qcd 17 177 = some (.goto 165, 3) := by decide +kernel
theorem c17_180 : qcd 17 180 = some (.iload 6, 2) := by decide +kernel
theorem c17_182 : qcd 17 182 = some (.iconst 2, 1) := by decide +kernel
theorem c17_183 : qcd 17 183 = some (.if_icmp .ge 5, 3) := by decide +kernel
theorem c17_186 : qcd 17 186 = some (.iconst 0, 1) := by decide +kernel
theorem c17_187 : qcd 17 187 = some (.ireturn, 1) := by decide +kernel
theorem c17_188 : qcd 17 188 = some (.aload_n 0, 1) := by decide +kernel
theorem c17_189 : qcd 17 189 = some (.getfield 28, 3) := by decide +kernel
theorem c17_192 : qcd 17 192 = some (.iload 6, 2) := by decide +kernel
theorem c17_194 : qcd 17 194 = some (.iconst 1, 1) := by decide +kernel
theorem c17_195 : qcd 17 195 = some (.isub, 1) := by decide +kernel
theorem c17_196 : qcd 17 196 = some (.laload, 1) := by decide +kernel
theorem c17_197 : qcd 17 197 = some (.lstore 9, 2) := by decide +kernel
theorem c17_199 : qcd 17 199 = some (.aload_n 0, 1) := by decide +kernel
theorem c17_200 : qcd 17 200 = some (.getfield 28, 3) := by decide +kernel
theorem c17_203 : qcd 17 203 = some (.iload 6, 2) := by decide +kernel
theorem c17_205 : qcd 17 205 = some (.iconst 2, 1) := by decide +kernel
theorem c17_206 : qcd 17 206 = some (.isub, 1) := by decide +kernel
theorem c17_207 : qcd 17 207 = some (.laload, 1) := by decide +kernel
theorem c17_208 : qcd 17 208 = some (.lstore 11, 2) := by decide +kernel
theorem c17_210 : qcd 17 210 = some (.lload 9, 2) := by decide +kernel
theorem c17_212 : qcd 17 212 = some (.lconst 0, 1) := by decide +kernel
theorem c17_213 : qcd 17 213 = some (.lcmp, 1) := by decide +kernel
theorem c17_214 : qcd 17 214 = some (.ifCond .ne 19, 3) := by decide +kernel
theorem c17_217 : qcd 17 217 = some (.iload 8, 2) := by decide +kernel
theorem c17_219 : qcd 17 219 = some (.bipush 47, 2) := by decide +kernel
theorem c17_221 : qcd 17 221 = some (.if_icmp .eq 10, 3) := by decide +kernel
theorem c17_224 : qcd 17 224 = some (.iload 8, 2) := by decide +kernel
theorem c17_226 : qcd 17 226 = some (.bipush 37, 2) := by decide +kernel
theorem c17_228 : qcd 17 228 = some (.if_icmp .ne 5, 3) := by decide +kernel
theorem c17_231 : qcd 17 231 = some (.iconst 0, 1) := by decide +kernel
theorem c17_232 : qcd 17 232 = some (.ireturn, 1) := by decide +kernel
theorem c17_233 : qcd 17 233 = some (.iload 8, 2) := by decide +kernel
theorem c17_235 : qcd 17 235 = some (.bipush 60, 2) := by decide +kernel
theorem c17_237 : qcd 17 237 = some (.if_icmp .eq 17, 3) := by decide +kernel
theorem c17_240 : qcd 17 240 = some (.iload 8, 2) := by decide +kernel
theorem c17_242 : qcd 17 242 = some (.bipush 62, 2) := by decide +kernel
theorem c17_244 : qcd 17 244 = some (.if_icmp .eq 10, 3) := by decide +kernel
theorem c17_247 : qcd 17 247 = some (.iload 8, 2) := by decide +kernel
theorem c17_249 : qcd 17 249 = some (.bipush 61, 2) := by decide +kernel
theorem c17_251 : qcd 17 251 = some (.if_icmp .ne 70, 3) := by decide +kernel
theorem c17_254 : qcd 17 254 = some (.iload 8, 2) := by decide +kernel
theorem c17_256 : qcd 17 256 = some (.bipush 60, 2) := by decide +kernel
theorem c17_258 : qcd 17 258 = some (.if_icmp .ne 19, 3) := by decide +kernel
theorem c17_261 : qcd 17 261 = some (.lload 11, 2) := by decide +kernel
theorem c17_263 : qcd 17 263 = some (.lload 9, 2) := by decide +kernel
theorem c17_265 : qcd 17 265 = some (.lcmp, 1) := by decide +kernel
theorem c17_266 : qcd 17 266 = some (.ifCond .ge 7, 3) := by decide +kernel
theorem c17_269 : qcd 17 269 = some (.iconst 1, 1) := by decide +kernel
theorem c17_270 : qcd 17 270 = some (.goto 43, 3) := by decide +kernel
theorem c17_273 : qcd 17 273 = some (.iconst 0, 1) := by decide +kernel
theorem c17_274 : qcd 17 274 = some (.goto 39, 3) := by decide +kernel
theorem c17_277 : qcd 17 277 = some (.iload 8, 2) := by decide +kernel
theorem c17_279 : qcd 17 279 = some (.bipush 62, 2) := by decide +kernel
theorem c17_281 : qcd 17 281 = some (.if_icmp .ne 19, 3) := by decide +kernel
theorem c17_284 : qcd 17 284 = some (.lload 11, 2) := by decide +kernel
theorem c17_286 : qcd 17 286 = some (.lload 9, 2) := by decide +kernel
theorem c17_288 : qcd 17 288 = some (.lcmp, 1) := by decide +kernel
theorem c17_289 : qcd 17 289 = some (.ifCond .le 7, 3) := by decide +kernel
theorem c17_292 : qcd 17 292 = some (.iconst 1, 1) := by decide +kernel
theorem c17_293 : qcd 17 293 = some (.goto 20, 3) := by decide +kernel
theorem c17_296 : qcd 17 296 = some (.iconst 0, 1) := by decide +kernel
theorem c17_297 : qcd 17 297 = some (.goto 16, 3) := by decide +kernel
theorem c17_300 : qcd 17 300 = some (.lload 11, 2) := by decide +kernel
theorem c17_302 : qcd 17 302 = some (.lload 9, 2) := by decide +kernel
theorem c17_304 : qcd 17 304 = some (.lcmp, 1) := by decide +kernel
theorem c17_305 : qcd 17 305 = some (.ifCond .ne 7, 3) := by decide +kernel
theorem c17_308 : qcd 17 308 = some (.iconst 1, 1) := by decide +kernel
theorem c17_309 : qcd 17 309 = some (.goto 4, 3) := by decide +kernel
theorem c17_312 : qcd 17 312 = some (.iconst 0, 1) := by decide +kernel
theorem c17_313 : qcd 17 313 = some (.istore 4, 2) := by decide +kernel
theorem c17_315 : qcd 17 315 = some (.iinc 6 (-2), 3) := by decide +kernel
theorem c17_318 : qcd 17 318 = some (.goto 24, 3) := by decide +kernel
theorem c17_321 : qcd 17 321 = some (.aload_n 0, 1) := by decide +kernel
theorem c17_322 : qcd 17 322 = some (.getfield 28, 3) := by decide +kernel
theorem c17_325 : qcd 17 325 = some (.iload 6, 2) := by decide +kernel
theorem c17_327 : qcd 17 327 = some (.iconst 2, 1) := by decide +kernel
theorem c17_328 : qcd 17 328 = some (.isub, 1) := by decide +kernel
theorem c17_329 : qcd 17 329 = some (.iload 8, 2) := by decide +kernel
theorem c17_331 : qcd 17 331 = some (.lload 11, 2) := by decide +kernel
theorem c17_333 : qcd 17 333 = some (.lload 9, 2) := by decide +kernel
theorem c17_335 : qcd 17 335 = some (.invokestatic 118, 3) := by decide +kernel
theorem c17_338 : qcd 17 338 = some (.lastore, 1) := by decide +kernel
theorem c17_339 : qcd 17 339 = some (.iinc 6 (-1), 3) := by decide +kernel
theorem c17_342 : qcd 17 342 = some (.iinc 7 1, 3) := by decide +kernel
theorem c17_345 : qcd 17 345 = some (.goto (-333), 3) := by decide +kernel
theorem c17_348 : qcd 17 348 = some (.iload 4, 2) := by decide +kernel
theorem c17_350 : qcd 17 350 = some (.ireturn, 1) := by decide +kernel
theorem c18_0 : qcd 18 0 = some (.aload_n 0, 1) := by decide +kernel
theorem c18_1 : qcd 18 1 = some (.invokespecial 5, 3) := by decide +kernel
theorem c18_4 : qcd 18 4 = some (.aload_n 0, 1) := by decide +kernel
theorem c18_5 : qcd 18 5 = some (.sipush 160, 3) := by decide +kernel
theorem c18_8 : qcd 18 8 = some (.newarray .int, 2) := by decide +kernel
theorem c18_10 : qcd 18 10 = some (.putfield 11, 3) := by decide +kernel
theorem c18_13 : qcd 18 13 = some (.aload_n 0, 1) := by decide +kernel
theorem c18_14 : qcd 18 14 = some (.sipush 320, 3) := by decide +kernel
theorem c18_17 : qcd 18 17 = some (.newarray .int, 2) := by decide +kernel
theorem c18_19 : qcd 18 19 = some (.putfield 15, 3) := by decide +kernel
theorem c18_22 : qcd 18 22 = some (.aload_n 0, 1) := by decide +kernel
theorem c18_23 : qcd 18 23 = some (.sipush 320, 3) := by decide +kernel
theorem c18_26 : qcd 18 26 = some (.newarray .int, 2) := by decide +kernel
theorem c18_28 : qcd 18 28 = some (.putfield 18, 3) := by decide +kernel
theorem c18_31 : qcd 18 31 = some (.aload_n 0, 1) := by decide +kernel
theorem c18_32 : qcd 18 32 = some (.bipush 12, 2) := by decide +kernel
theorem c18_34 : qcd 18 34 = some (.newarray .int, 2) := by decide +kernel
theorem c18_36 : qcd 18 36 = some (.putfield 21, 3) := by decide +kernel
theorem c18_39 : qcd 18 39 = some (.aload_n 0, 1) := by decide +kernel
theorem c18_40 : qcd 18 40 = some (.bipush 12, 2) := by decide +kernel
theorem c18_42 : qcd 18 42 = some (.newarray .boolean, 2) := by decide +kernel
theorem c18_44 : qcd 18 44 = some (.putfield 24, 3) := by decide +kernel
theorem c18_47 : qcd 18 47 = some (.aload_n 0, 1) := by decide +kernel
theorem c18_48 : qcd 18 48 = some (.bipush 32, 2) := by decide +kernel
theorem c18_50 : qcd 18 50 = some (.newarray .long, 2) := by decide +kernel
theorem c18_52 : qcd 18 52 = some (.putfield 28, 3) := by decide +kernel
theorem c18_55 : qcd 18 55 = some (.return_, 1) := by decide +kernel
theorem c19_0 : qcd 19 0 = some (.iload_n 1, 1) := by decide +kernel
theorem c19_1 : qcd 19 1 = some (.bipush 6, 2) := by decide +kernel
theorem c19_3 : qcd 19 3 = some (.if_icmp .lt 21, 3) := by decide +kernel
theorem c19_6 : qcd 19 6 = some (.iload_n 1, 1) := by decide +kernel
theorem c19_7 : qcd 19 7 = some (.bipush 9, 2) := by decide +kernel
theorem c19_9 : qcd 19 9 = some (.if_icmp .lt 7, 3) := by decide +kernel
theorem c19_12 : qcd 19 12 = some (.iconst 1, 1) := by decide +kernel
theorem c19_13 : qcd 19 13 = some (.goto 4, 3) := by decide +kernel
theorem c19_16 : qcd 19 16 = some (.iconst 0, 1) := by decide +kernel
theorem c19_17 : qcd 19 17 = some (.aload_n 0, 1) := by decide +kernel
theorem c19_18 : qcd 19 18 = some (.getfield 81, 3) := by decide +kernel
theorem c19_21 : qcd 19 21 = some (.if_icmp .ne 7, 3) := by decide +kernel
theorem c19_24 : qcd 19 24 = some (.iconst 1, 1) := by decide +kernel
theorem c19_25 : qcd 19 25 = some (.goto 4, 3) := by decide +kernel
theorem c19_28 : qcd 19 28 = some (.iconst 0, 1) := by decide +kernel
theorem c19_29 : qcd 19 29 = some (.ireturn, 1) := by decide +kernel
theorem c20_0 : qcd 20 0 = some (.iload_n 0, 1) := by decide +kernel
theorem c20_1 : qcd 20 1 = some (.bipush 48, 2) := by decide +kernel
theorem c20_3 : qcd 20 3 = some (.if_icmp .lt 13, 3) := by decide +kernel
theorem c20_6 : qcd 20 6 = some (.iload_n 0, 1) := by decide +kernel
theorem c20_7 : qcd 20 7 = some (.bipush 57, 2) := by decide +kernel
theorem c20_9 : qcd 20 9 = some (.if_icmp .gt 7, 3) := by decide +kernel
theorem c20_12 : qcd 20 12 = some (.iconst 1, 1) := by decide +kernel
theorem c20_13 : qcd 20 13 = some (.goto 4, 3) := by decide +kernel
theorem c20_16 : qcd 20 16 = some (.iconst 0, 1) := by decide +kernel
theorem c20_17 : qcd 20 17 = some (.ireturn, 1) := by decide +kernel
theorem c21_0 : qcd 21 0 = some (.iload_n 1, 1) := by decide +kernel
theorem c21_1 : qcd 21 1 = some (.istore_n 3, 1) := by decide +kernel
theorem c21_2 : qcd 21 2 = some (.iload_n 3, 1) := by decide +kernel
theorem c21_3 : qcd 21 3 = some (.aload_n 0, 1) := by decide +kernel
theorem c21_4 : qcd 21 4 = some (.getfield 54, 3) := by decide +kernel
theorem c21_7 : qcd 21 7 = some (.if_icmp .ge 39, 3) := by decide +kernel
theorem c21_10 : qcd 21 10 = some (.aload_n 0, 1) := by decide +kernel
theorem c21_11 : qcd 21 11 = some (.getfield 15, 3) := by decide +kernel
theorem c21_14 : qcd 21 14 = some (.iload_n 3, 1) := by decide +kernel
theorem c21_15 : qcd 21 15 = some (.iaload, 1) := by decide +kernel
theorem c21_16 : qcd 21 16 = some (.iload_n 2, 1) := by decide +kernel
theorem c21_17 : qcd 21 17 = some (.if_icmp .ne 23, 3) := by decide +kernel
theorem c21_20 : qcd 21 20 = some (.aload_n 0, 1) := by decide +kernel
theorem c21_21 : qcd 21 21 = some (.getfield 18, 3) := by decide +kernel
theorem c21_24 : qcd 21 24 = some (.iload_n 3, 1) := by decide +kernel
theorem c21_25 : qcd 21 25 = some (.iaload, 1) := by decide +kernel
theorem c21_26 : qcd 21 26 = some (.iconst (-1), 1) := by decide +kernel
theorem c21_27 : qcd 21 27 = some (.if_icmp .ne 13, 3) := by decide +kernel
theorem c21_30 : qcd 21 30 = some (.aload_n 0, 1) := by decide +kernel
theorem c21_31 : qcd 21 31 = some (.getfield 18, 3) := by decide +kernel
theorem c21_34 : qcd 21 34 = some (.iload_n 3, 1) := by decide +kernel
theorem c21_35 : qcd 21 35 = some (.aload_n 0, 1) := by decide +kernel
theorem c21_36 : qcd 21 36 = some (.getfield 54, 3) := by decide +kernel
theorem c21_39 : qcd 21 39 = some (.iastore, 1) := by decide +kernel
theorem c21_40 : qcd 21 40 = some (.iinc 3 1, 3) := by decide +kernel
theorem c21_43 : qcd 21 43 = some (.goto (-41), 3) := by decide +kernel
theorem c21_46 : qcd 21 46 = some (.return_, 1) := by decide +kernel
theorem c22_0 : qcd 22 0 = some (.iconst 0, 1) := by decide +kernel
theorem c22_1 : qcd 22 1 = some (.istore_n 1, 1) := by decide +kernel
theorem c22_2 : qcd 22 2 = some (.iconst 0, 1) := by decide +kernel
theorem c22_3 : qcd 22 3 = some (.istore_n 2, 1) := by decide +kernel
theorem c22_4 : qcd 22 4 = some (.iload_n 2, 1) := by decide +kernel
theorem c22_5 : qcd 22 5 = some (.bipush 6, 2) := by decide +kernel
theorem c22_7 : qcd 22 7 = some (.if_icmp .ge 42, 3) := by decide +kernel
theorem c22_10 : qcd 22 10 = some (.aload_n 0, 1) := by decide +kernel
theorem c22_11 : qcd 22 11 = some (.invokevirtual 74, 3) := by decide +kernel
theorem c22_14 : qcd 22 14 = some (.invokestatic 101, 3) := by decide +kernel
theorem c22_17 : qcd 22 17 = some (.ifCond .eq 32, 3) := by decide +kernel
theorem c22_20 : qcd 22 20 = some (.iload_n 1, 1) := by decide +kernel
theorem c22_21 : qcd 22 21 = some (.bipush 10, 2) := by decide +kernel
theorem c22_23 : qcd 22 23 = some (.imul, 1) := by decide +kernel
theorem c22_24 : qcd 22 24 = some (.aload_n 0, 1) := by decide +kernel
theorem c22_25 : qcd 22 25 = some (.invokevirtual 74, 3) := by decide +kernel
theorem c22_28 : qcd 22 28 = some (.iadd, 1) := by decide +kernel
theorem c22_29 : qcd 22 29 = some (.bipush 48, 2) := by decide +kernel
theorem c22_31 : qcd 22 31 = some (.isub, 1) := by decide +kernel
theorem c22_32 : qcd 22 32 = some (.istore_n 1, 1) := by decide +kernel
theorem c22_33 : qcd 22 33 = some (.aload_n 0, 1) := by decide +kernel
theorem c22_34 : qcd 22 34 = some (.dup, 1) := by decide +kernel
theorem c22_35 : qcd 22 35 = some (.getfield 57, 3) := by decide +kernel
theorem c22_38 : qcd 22 38 = some (.iconst 1, 1) := by decide +kernel
theorem c22_39 : qcd 22 39 = some (.iadd, 1) := by decide +kernel
theorem c22_40 : qcd 22 40 = some (.putfield 57, 3) := by decide +kernel
theorem c22_43 : qcd 22 43 = some (.iinc 2 1, 3) := by decide +kernel
theorem c22_46 : qcd 22 46 = some (.goto (-42), 3) := by decide +kernel
theorem c22_49 : qcd 22 49 = some (.aload_n 0, 1) := by decide +kernel
theorem c22_50 : qcd 22 50 = some (.invokevirtual 74, 3) := by decide +kernel
theorem c22_53 : qcd 22 53 = some (.invokestatic 101, 3) := by decide +kernel
theorem c22_56 : qcd 22 56 = some (.ifCond .eq 9, 3) := by decide +kernel
theorem c22_59 : qcd 22 59 = some (.aload_n 0, 1) := by decide +kernel
theorem c22_60 : qcd 22 60 = some (.iconst 2, 1) := by decide +kernel
theorem c22_61 : qcd 22 61 = some (.invokevirtual 78, 3) := by decide +kernel
theorem c22_64 : qcd 22 64 = some (.ireturn, 1) := by decide +kernel
theorem c22_65 : qcd 22 65 = some (.aload_n 0, 1) := by decide +kernel
theorem c22_66 : qcd 22 66 = some (.bipush 48, 2) := by decide +kernel
theorem c22_68 : qcd 22 68 = some (.iload_n 1, 1) := by decide +kernel
theorem c22_69 : qcd 22 69 = some (.invokevirtual 88, 3) := by decide +kernel
theorem c22_72 : qcd 22 72 = some (.iconst 1, 1) := by decide +kernel
theorem c22_73 : qcd 22 73 = some (.ireturn, 1) := by decide +kernel
theorem c23_0 : qcd 23 0 = some (.aload_n 0, 1) := by decide +kernel
theorem c23_1 : qcd 23 1 = some (.getfield 57, 3) := by decide +kernel
theorem c23_4 : qcd 23 4 = some (.ifCond .lt 26, 3) := by decide +kernel
theorem c23_7 : qcd 23 7 = some (.aload_n 0, 1) := by decide +kernel
theorem c23_8 : qcd 23 8 = some (.getfield 57, 3) := by decide +kernel
theorem c23_11 : qcd 23 11 = some (.aload_n 0, 1) := by decide +kernel
theorem c23_12 : qcd 23 12 = some (.getfield 38, 3) := by decide +kernel
theorem c23_15 : qcd 23 15 = some (.if_icmp .ge 15, 3) := by decide +kernel
theorem c23_18 : qcd 23 18 = some (.aload_n 0, 1) := by decide +kernel
theorem c23_19 : qcd 23 19 = some (.getfield 11, 3) := by decide +kernel
theorem c23_22 : qcd 23 22 = some (.aload_n 0, 1) := by decide +kernel
theorem c23_23 : qcd 23 23 = some (.getfield 57, 3) := by decide +kernel
theorem c23_26 : qcd 23 26 = some (.iaload, 1) := by decide +kernel
theorem c23_27 : qcd 23 27 = some (.goto 4, 3) := by decide +kernel
theorem c23_30 : qcd 23 30 = some (.iconst (-1), 1) := by decide +kernel
theorem c23_31 : qcd 23 31 = some (.ireturn, 1) := by decide +kernel
theorem c24_0 : qcd 24 0 = some (.aload_n 0, 1) := by decide +kernel
theorem c24_1 : qcd 24 1 = some (.invokevirtual 74, 3) := by decide +kernel
theorem c24_4 : qcd 24 4 = some (.istore_n 2, 1) := by decide +kernel
theorem c24_5 : qcd 24 5 = some (.iload_n 2, 1) := by decide +kernel
theorem c24_6 : qcd 24 6 = some (.bipush 33, 2) := by decide +kernel
theorem c24_8 : qcd 24 8 = some (.if_icmp .eq 9, 3) := by decide +kernel
theorem c24_11 : qcd 24 11 = some (.iload_n 2, 1) := by decide +kernel
theorem c24_12 : qcd 24 12 = some (.bipush 40, 2) := by decide +kernel
theorem c24_14 : qcd 24 14 = some (.if_icmp .ne 77, 3) := by decide +kernel
theorem c24_17 : qcd 24 17 = some (.iload_n 1, 1) := by decide +kernel
theorem c24_18 : qcd 24 18 = some (.bipush 6, 2) := by decide +kernel
theorem c24_20 : qcd 24 20 = some (.if_icmp .lt 9, 3) := by decide +kernel
theorem c24_23 : qcd 24 23 = some (.aload_n 0, 1) := by decide +kernel
theorem c24_24 : qcd 24 24 = some (.iconst 5, 1) := by decide +kernel
theorem c24_25 : qcd 24 25 = some (.invokevirtual 78, 3) := by decide +kernel
theorem c24_28 : qcd 24 28 = some (.ireturn, 1) := by decide +kernel
theorem c24_29 : qcd 24 29 = some (.aload_n 0, 1) := by decide +kernel
theorem c24_30 : qcd 24 30 = some (.dup, 1) := by decide +kernel
theorem c24_31 : qcd 24 31 = some (.getfield 57, 3) := by decide +kernel
theorem c24_34 : qcd 24 34 = some (.iconst 1, 1) := by decide +kernel
theorem c24_35 : qcd 24 35 = some (.iadd, 1) := by decide +kernel
theorem c24_36 : qcd 24 36 = some (.putfield 57, 3) := by decide +kernel
theorem c24_39 : qcd 24 39 = some (.iload_n 2, 1) := by decide +kernel
theorem c24_40 : qcd 24 40 = some (.bipush 40, 2) := by decide +kernel
theorem c24_42 : qcd 24 42 = some (.if_icmp .ne 28, 3) := by decide +kernel
theorem c24_45 : qcd 24 45 = some (.aload_n 0, 1) := by decide +kernel
theorem c24_46 : qcd 24 46 = some (.iload_n 1, 1) := by decide +kernel
theorem c24_47 : qcd 24 47 = some (.iconst 1, 1) := by decide +kernel
theorem c24_48 : qcd 24 48 = some (.iadd, 1) := by decide +kernel
theorem c24_49 : qcd 24 49 = some (.invokevirtual 68, 3) := by decide +kernel
theorem c24_52 : qcd 24 52 = some (.ifCond .eq 16, 3) := by decide +kernel
theorem c24_55 : qcd 24 55 = some (.aload_n 0, 1) := by decide +kernel
theorem c24_56 : qcd 24 56 = some (.bipush 41, 2) := by decide +kernel
theorem c24_58 : qcd 24 58 = some (.invokevirtual 64, 3) := by decide +kernel
theorem c24_61 : qcd 24 61 = some (.ifCond .eq 7, 3) := by decide +kernel
theorem c24_64 : qcd 24 64 = some (.iconst 1, 1) := by decide +kernel
theorem c24_65 : qcd 24 65 = some (.goto 4, 3) := by decide +kernel
theorem c24_68 : qcd 24 68 = some (.iconst 0, 1) := by decide +kernel
theorem c24_69 : qcd 24 69 = some (.ireturn, 1) := by decide +kernel
theorem c24_70 : qcd 24 70 = some (.aload_n 0, 1) := by decide +kernel
theorem c24_71 : qcd 24 71 = some (.iload_n 1, 1) := by decide +kernel
theorem c24_72 : qcd 24 72 = some (.iconst 1, 1) := by decide +kernel
theorem c24_73 : qcd 24 73 = some (.iadd, 1) := by decide +kernel
theorem c24_74 : qcd 24 74 = some (.invokevirtual 85, 3) := by decide +kernel
theorem c24_77 : qcd 24 77 = some (.ifCond .ne 5, 3) := by decide +kernel
theorem c24_80 : qcd 24 80 = some (.iconst 0, 1) := by decide +kernel
theorem c24_81 : qcd 24 81 = some (.ireturn, 1) := by decide +kernel
theorem c24_82 : qcd 24 82 = some (.aload_n 0, 1) := by decide +kernel
theorem c24_83 : qcd 24 83 = some (.bipush 33, 2) := by decide +kernel
theorem c24_85 : qcd 24 85 = some (.iconst 0, 1) := by decide +kernel
theorem c24_86 : qcd 24 86 = some (.invokevirtual 88, 3) := by decide +kernel
theorem c24_89 : qcd 24 89 = some (.iconst 1, 1) := by decide +kernel
theorem c24_90 : qcd 24 90 = some (.ireturn, 1) := by decide +kernel
theorem c24_91 : qcd 24 91 = some (.aload_n 0, 1) := by decide +kernel
theorem c24_92 : qcd 24 92 = some (.iload_n 1, 1) := by decide +kernel
theorem c24_93 : qcd 24 93 = some (.invokevirtual 95, 3) := by decide +kernel
theorem c24_96 : qcd 24 96 = some (.ifCond .ne 5, 3) := by decide +kernel
theorem c24_99 : qcd 24 99 = some (.iconst 0, 1) := by decide +kernel
theorem c24_100 : qcd 24 100 = some (.ireturn, 1) := by decide +kernel
theorem c24_101 : qcd 24 101 = some (.aload_n 0, 1) := by decide +kernel
theorem c24_102 : qcd 24 102 = some (.invokevirtual 74, 3) := by decide +kernel
theorem c24_105 : qcd 24 105 = some (.istore_n 3, 1) := by decide +kernel
theorem c24_106 : qcd 24 106 = some (.iload_n 3, 1) := by decide +kernel
theorem c24_107 : qcd 24 107 = some (.bipush 60, 2) := by decide +kernel
theorem c24_109 : qcd 24 109 = some (.if_icmp .eq 21, 3) := by decide +kernel
theorem c24_112 : qcd 24 112 = some (.iload_n 3, 1) := by decide +kernel
theorem c24_113 : qcd 24 113 = some (.bipush 62, 2) := by decide +kernel
theorem c24_115 : qcd 24 115 = some (.if_icmp .eq 15, 3) := by decide +kernel
theorem c24_118 : qcd 24 118 = some (.iload_n 3, 1) := by decide +kernel
theorem c24_119 : qcd 24 119 = some (.bipush 61, 2) := by decide +kernel
theorem c24_121 : qcd 24 121 = some (.if_icmp .eq 9, 3) := by decide +kernel
theorem c24_124 : qcd 24 124 = some (.aload_n 0, 1) := by decide +kernel
theorem c24_125 : qcd 24 125 = some (.iconst 1, 1) := by decide +kernel
theorem c24_126 : qcd 24 126 = some (.invokevirtual 78, 3) := by decide +kernel
theorem c24_129 : qcd 24 129 = some (.ireturn, 1) := by decide +kernel
theorem c24_130 : qcd 24 130 = some (.aload_n 0, 1) := by decide +kernel
theorem c24_131 : qcd 24 131 = some (.dup, 1) := by decide +kernel
theorem c24_132 : qcd 24 132 = some (.getfield 57, 3) := by decide +kernel
theorem c24_135 : qcd 24 135 = some (.iconst 1, 1) := by decide +kernel
theorem c24_136 : qcd 24 136 = some (.iadd, 1) := by decide +kernel
theorem c24_137 : qcd 24 137 = some (.putfield 57, 3) := by decide +kernel
theorem c24_140 : qcd 24 140 = some (.aload_n 0, 1) := by decide +kernel
theorem c24_141 : qcd 24 141 = some (.iload_n 1, 1) := by decide +kernel
theorem c24_142 : qcd 24 142 = some (.invokevirtual 95, 3) := by decide +kernel
theorem c24_145 : qcd 24 145 = some (.ifCond .ne 5, 3) := by decide +kernel
theorem c24_148 : qcd 24 148 = some (.iconst 0, 1) := by decide +kernel
theorem c24_149 : qcd 24 149 = some (.ireturn, 1) := by decide +kernel
theorem c24_150 : qcd 24 150 = some (.aload_n 0, 1) := by decide +kernel
theorem c24_151 : qcd 24 151 = some (.iload_n 3, 1) := by decide +kernel
theorem c24_152 : qcd 24 152 = some (.iconst 0, 1) := by decide +kernel
theorem c24_153 : qcd 24 153 = some (.invokevirtual 88, 3) := by decide +kernel
theorem c24_156 : qcd 24 156 = some (.iconst 1, 1) := by decide +kernel
theorem c24_157 : qcd 24 157 = some (.ireturn, 1) := by decide +kernel
theorem c25_0 : qcd 25 0 = some (.aload_n 0, 1) := by decide +kernel
theorem c25_1 : qcd 25 1 = some (.iload_n 2, 1) := by decide +kernel
theorem c25_2 : qcd 25 2 = some (.aload_n 1, 1) := by decide +kernel
theorem c25_3 : qcd 25 3 = some (.arraylength, 1) := by decide +kernel
theorem c25_4 : qcd 25 4 = some (.sipush 160, 3) := by decide +kernel
theorem c25_7 : qcd 25 7 = some (.invokestatic 32, 3) := by decide +kernel
theorem c25_10 : qcd 25 10 = some (.invokestatic 32, 3) := by decide +kernel
theorem c25_13 : qcd 25 13 = some (.putfield 38, 3) := by decide +kernel
theorem c25_16 : qcd 25 16 = some (.aload_n 1, 1) := by decide +kernel
theorem c25_17 : qcd 25 17 = some (.iconst 0, 1) := by decide +kernel
theorem c25_18 : qcd 25 18 = some (.aload_n 0, 1) := by decide +kernel
theorem c25_19 : qcd 25 19 = some (.getfield 11, 3) := by decide +kernel
theorem c25_22 : qcd 25 22 = some (.iconst 0, 1) := by decide +kernel
theorem c25_23 : qcd 25 23 = some (.aload_n 0, 1) := by decide +kernel
theorem c25_24 : qcd 25 24 = some (.getfield 38, 3) := by decide +kernel
theorem c25_27 : qcd 25 27 = some (.invokestatic 42, 3) := by decide +kernel
theorem c25_30 : qcd 25 30 = some (.aload_n 0, 1) := by decide +kernel
theorem c25_31 : qcd 25 31 = some (.iconst 0, 1) := by decide +kernel
theorem c25_32 : qcd 25 32 = some (.putfield 48, 3) := by decide +kernel
theorem c25_35 : qcd 25 35 = some (.aload_n 0, 1) := by decide +kernel
theorem c25_36 : qcd 25 36 = some (.iconst 0, 1) := by decide +kernel
theorem c25_37 : qcd 25 37 = some (.putfield 51, 3) := by decide +kernel
theorem c25_40 : qcd 25 40 = some (.aload_n 0, 1) := by decide +kernel
theorem c25_41 : qcd 25 41 = some (.iconst 0, 1) := by decide +kernel
theorem c25_42 : qcd 25 42 = some (.putfield 54, 3) := by decide +kernel
theorem c25_45 : qcd 25 45 = some (.aload_n 0, 1) := by decide +kernel
theorem c25_46 : qcd 25 46 = some (.iconst 0, 1) := by decide +kernel
theorem c25_47 : qcd 25 47 = some (.putfield 57, 3) := by decide +kernel
theorem c25_50 : qcd 25 50 = some (.iconst 0, 1) := by decide +kernel
theorem c25_51 : qcd 25 51 = some (.istore_n 3, 1) := by decide +kernel
theorem c25_52 : qcd 25 52 = some (.iload_n 3, 1) := by decide +kernel
theorem c25_53 : qcd 25 53 = some (.bipush 12, 2) := by decide +kernel
theorem c25_55 : qcd 25 55 = some (.if_icmp .gt 81, 3) := by decide +kernel
theorem c25_58 : qcd 25 58 = some (.aload_n 0, 1) := by decide +kernel
theorem c25_59 : qcd 25 59 = some (.invokevirtual 60, 3) := by decide +kernel
theorem c25_62 : qcd 25 62 = some (.ifCond .eq 29, 3) := by decide +kernel
theorem c25_65 : qcd 25 65 = some (.aload_n 0, 1) := by decide +kernel
theorem c25_66 : qcd 25 66 = some (.bipush 40, 2) := by decide +kernel
theorem c25_68 : qcd 25 68 = some (.invokevirtual 64, 3) := by decide +kernel
theorem c25_71 : qcd 25 71 = some (.ifCond .eq 20, 3) := by decide +kernel
theorem c25_74 : qcd 25 74 = some (.aload_n 0, 1) := by decide +kernel
theorem c25_75 : qcd 25 75 = some (.iconst 1, 1) := by decide +kernel
theorem c25_76 : qcd 25 76 = some (.invokevirtual 68, 3) := by decide +kernel
theorem c25_79 : qcd 25 79 = some (.ifCond .eq 12, 3) := by decide +kernel
theorem c25_82 : qcd 25 82 = some (.aload_n 0, 1) := by decide +kernel
theorem c25_83 : qcd 25 83 = some (.bipush 41, 2) := by decide +kernel
theorem c25_85 : qcd 25 85 = some (.invokevirtual 64, 3) := by decide +kernel
theorem c25_88 : qcd 25 88 = some (.ifCond .ne 8, 3) := by decide +kernel
theorem c25_91 : qcd 25 91 = some (.aload_n 0, 1) := by decide +kernel
theorem c25_92 : qcd 25 92 = some (.getfield 51, 3) := by decide +kernel
theorem c25_95 : qcd 25 95 = some (.ireturn, 1) := by decide +kernel
theorem c25_96 : qcd 25 96 = some (.aload_n 0, 1) := by decide +kernel
theorem c25_97 : qcd 25 97 = some (.invokevirtual 71, 3) := by decide +kernel
theorem c25_100 : qcd 25 100 = some (.aload_n 0, 1) := by decide +kernel
theorem c25_101 : qcd 25 101 = some (.getfield 57, 3) := by decide +kernel
theorem c25_104 : qcd 25 104 = some (.aload_n 0, 1) := by decide +kernel
theorem c25_105 : qcd 25 105 = some (.getfield 38, 3) := by decide +kernel
theorem c25_108 : qcd 25 108 = some (.if_icmp .ne 8, 3) := by decide +kernel
theorem c25_111 : qcd 25 111 = some (.aload_n 0, 1) := by decide +kernel
theorem c25_112 : qcd 25 112 = some (.getfield 48, 3) := by decide +kernel
theorem c25_115 : qcd 25 115 = some (.ireturn, 1) := by decide +kernel
theorem c25_116 : qcd 25 116 = some (.aload_n 0, 1) := by decide +kernel
theorem c25_117 : qcd 25 117 = some (.bipush 59, 2) := by decide +kernel
theorem c25_119 : qcd 25 119 = some (.invokevirtual 64, 3) := by decide +kernel
theorem c25_122 : qcd 25 122 = some (.ifCond .ne 8, 3) := by decide +kernel
theorem c25_125 : qcd 25 125 = some (.aload_n 0, 1) := by decide +kernel
theorem c25_126 : qcd 25 126 = some (.getfield 51, 3) := by decide +kernel
theorem c25_129 : qcd 25 129 = some (.ireturn, 1) := by decide +kernel
theorem c25_130 : qcd 25 130 = some (.iinc 3 1, 3) := by decide +kernel
theorem c25_133 : qcd 25 133 = some (.goto (-81), 3) := by decide +kernel
theorem c25_136 : qcd 25 136 = some (.aload_n 0, 1) := by decide +kernel
theorem c25_137 : qcd 25 137 = some (.getfield 51, 3) := by decide +kernel
theorem c25_140 : qcd 25 140 = some (.ireturn, 1) := by decide +kernel
theorem c26_0 : qcd 26 0 = some (.iload_n 0, 1) := by decide +kernel
theorem c26_1 : qcd 26 1 = some (.tableswitch 65 42 47 #[47, 39, 65, 43, 65, 51], 39) := by decide +kernel
theorem c26_40 : qcd 26 40 = some (.lload_n 1, 1) := by decide +kernel
theorem c26_41 : qcd 26 41 = some (.lload_n 3, 1) := by decide +kernel
theorem c26_42 : qcd 26 42 = some (.ladd, 1) := by decide +kernel
theorem c26_43 : qcd 26 43 = some (.lreturn, 1) := by decide +kernel
theorem c26_44 : qcd 26 44 = some (.lload_n 1, 1) := by decide +kernel
theorem c26_45 : qcd 26 45 = some (.lload_n 3, 1) := by decide +kernel
theorem c26_46 : qcd 26 46 = some (.lsub, 1) := by decide +kernel
theorem c26_47 : qcd 26 47 = some (.lreturn, 1) := by decide +kernel
theorem c26_48 : qcd 26 48 = some (.lload_n 1, 1) := by decide +kernel
theorem c26_49 : qcd 26 49 = some (.lload_n 3, 1) := by decide +kernel
theorem c26_50 : qcd 26 50 = some (.lmul, 1) := by decide +kernel
theorem c26_51 : qcd 26 51 = some (.lreturn, 1) := by decide +kernel
theorem c26_52 : qcd 26 52 = some (.lload_n 3, 1) := by decide +kernel
theorem c26_53 : qcd 26 53 = some (.lconst 0, 1) := by decide +kernel
theorem c26_54 : qcd 26 54 = some (.lcmp, 1) := by decide +kernel
theorem c26_55 : qcd 26 55 = some (.ifCond .ne 7, 3) := by decide +kernel
theorem c26_58 : qcd 26 58 = some (.lconst 0, 1) := by decide +kernel
theorem c26_59 : qcd 26 59 = some (.goto 6, 3) := by decide +kernel
theorem c26_62 : qcd 26 62 = some (.lload_n 1, 1) := by decide +kernel
theorem c26_63 : qcd 26 63 = some (.lload_n 3, 1) := by decide +kernel
theorem c26_64 : qcd 26 64 = some (.ldiv, 1) := by decide +kernel
theorem c26_65 : qcd 26 65 = some (.lreturn, 1) := by decide +kernel
theorem c26_66 : qcd 26 66 = some (.lload_n 3, 1) := by decide +kernel
theorem c26_67 : qcd 26 67 = some (.lconst 0, 1) := by decide +kernel
theorem c26_68 : qcd 26 68 = some (.lcmp, 1) := by decide +kernel
theorem c26_69 : qcd 26 69 = some (.ifCond .ne 7, 3) := by decide +kernel
theorem c26_72 : qcd 26 72 = some (.lconst 0, 1) := by decide +kernel
theorem c26_73 : qcd 26 73 = some (.goto 6, 3) := by decide +kernel
theorem c26_76 : qcd 26 76 = some (.lload_n 1, 1) := by decide +kernel
theorem c26_77 : qcd 26 77 = some (.lload_n 3, 1) := by decide +kernel
theorem c26_78 : qcd 26 78 = some (.lrem, 1) := by decide +kernel
theorem c26_79 : qcd 26 79 = some (.lreturn, 1) := by decide +kernel
theorem c27_0 : qcd 27 0 = some (.aload_n 0, 1) := by decide +kernel
theorem c27_1 : qcd 27 1 = some (.sipush (-1000), 3) := by decide +kernel
theorem c27_4 : qcd 27 4 = some (.iload_n 1, 1) := by decide +kernel
theorem c27_5 : qcd 27 5 = some (.imul, 1) := by decide +kernel
theorem c27_6 : qcd 27 6 = some (.aload_n 0, 1) := by decide +kernel
theorem c27_7 : qcd 27 7 = some (.getfield 57, 3) := by decide +kernel
theorem c27_10 : qcd 27 10 = some (.isub, 1) := by decide +kernel
theorem c27_11 : qcd 27 11 = some (.putfield 51, 3) := by decide +kernel
theorem c27_14 : qcd 27 14 = some (.iconst 0, 1) := by decide +kernel
theorem c27_15 : qcd 27 15 = some (.ireturn, 1) := by decide +kernel
theorem c28_0 : qcd 28 0 = some (.iconst 0, 1) := by decide +kernel
theorem c28_1 : qcd 28 1 = some (.istore_n 2, 1) := by decide +kernel
theorem c28_2 : qcd 28 2 = some (.iconst 0, 1) := by decide +kernel
theorem c28_3 : qcd 28 3 = some (.istore_n 3, 1) := by decide +kernel
theorem c28_4 : qcd 28 4 = some (.aload_n 0, 1) := by decide +kernel
theorem c28_5 : qcd 28 5 = some (.getfield 38, 3) := by decide +kernel
theorem c28_8 : qcd 28 8 = some (.istore 4, 2) := by decide +kernel
theorem c28_10 : qcd 28 10 = some (.iload 4, 2) := by decide +kernel
theorem c28_12 : qcd 28 12 = some (.ifCond .le 106, 3) := by decide +kernel
theorem c28_15 : qcd 28 15 = some (.aload_n 0, 1) := by decide +kernel
theorem c28_16 : qcd 28 16 = some (.iload_n 1, 1) := by decide +kernel
theorem c28_17 : qcd 28 17 = some (.invokevirtual 98, 3) := by decide +kernel
theorem c28_20 : qcd 28 20 = some (.ifCond .ne 5, 3) := by decide +kernel
theorem c28_23 : qcd 28 23 = some (.iconst 0, 1) := by decide +kernel
theorem c28_24 : qcd 28 24 = some (.ireturn, 1) := by decide +kernel
theorem c28_25 : qcd 28 25 = some (.iload_n 2, 1) := by decide +kernel
theorem c28_26 : qcd 28 26 = some (.ifCond .eq 9, 3) := by decide +kernel
theorem c28_29 : qcd 28 29 = some (.aload_n 0, 1) := by decide +kernel
theorem c28_30 : qcd 28 30 = some (.iload_n 2, 1) := by decide +kernel
theorem c28_31 : qcd 28 31 = some (.iconst 0, 1) := by decide +kernel
theorem c28_32 : qcd 28 32 = some (.invokevirtual 88, 3) := by decide +kernel
theorem c28_35 : qcd 28 35 = some (.aload_n 0, 1) := by decide +kernel
theorem c28_36 : qcd 28 36 = some (.invokevirtual 74, 3) := by decide +kernel
theorem c28_39 : qcd 28 39 = some (.istore 5, 2) := by decide +kernel
theorem c28_41 : qcd 28 41 = some (.iload 5, 2) := by decide +kernel
theorem c28_43 : qcd 28 43 = some (.bipush 42, 2) := by decide +kernel
theorem c28_45 : qcd 28 45 = some (.if_icmp .eq 17, 3) := by decide +kernel
theorem c28_48 : qcd 28 48 = some (.iload 5, 2) := by decide +kernel
theorem c28_50 : qcd 28 50 = some (.bipush 47, 2) := by decide +kernel
theorem c28_52 : qcd 28 52 = some (.if_icmp .eq 10, 3) := by decide +kernel
theorem c28_55 : qcd 28 55 = some (.iload 5, 2) := by decide +kernel
theorem c28_57 : qcd 28 57 = some (.bipush 37, 2) := by decide +kernel
theorem c28_59 : qcd 28 59 = some (.if_icmp .ne 8, 3) := by decide +kernel
theorem c28_62 : qcd 28 62 = some (.iload 5, 2) := by decide +kernel
theorem c28_64 : qcd 28 64 = some (.goto 4, 3) := by decide +kernel
theorem c28_67 : qcd 28 67 = some (.iconst 0, 1) := by decide +kernel
theorem c28_68 : qcd 28 68 = some (.istore_n 2, 1) := by decide +kernel
theorem c28_69 : qcd 28 69 = some (.iload_n 2, 1) := by decide +kernel
theorem c28_70 : qcd 28 70 = some (.ifCond .ne 32, 3) := by decide +kernel
theorem c28_73 : qcd 28 73 = some (.iload_n 3, 1) := by decide +kernel
theorem c28_74 : qcd 28 74 = some (.ifCond .eq 9, 3) := by decide +kernel
theorem c28_77 : qcd 28 77 = some (.aload_n 0, 1) := by decide +kernel
theorem c28_78 : qcd 28 78 = some (.iload_n 3, 1) := by decide +kernel
theorem c28_79 : qcd 28 79 = some (.iconst 0, 1) := by decide +kernel
theorem c28_80 : qcd 28 80 = some (.invokevirtual 88, 3) := by decide +kernel
theorem c28_83 : qcd 28 83 = some (.iload 5, 2) := by decide +kernel
theorem c28_85 : qcd 28 85 = some (.bipush 43, 2) := by decide +kernel
theorem c28_87 : qcd 28 87 = some (.if_icmp .eq 12, 3) := by decide +kernel
theorem c28_90 : qcd 28 90 = some (.iload 5, 2) := by decide +kernel
theorem c28_92 : qcd 28 92 = some (.bipush 45, 2) := by decide +kernel
theorem c28_94 : qcd 28 94 = some (.if_icmp .eq 5, 3) := by decide +kernel
theorem c28_97 : qcd 28 97 = some (.iconst 1, 1) := by decide +kernel
theorem c28_98 : qcd 28 98 = some (.ireturn, 1) := by decide +kernel
theorem c28_99 : qcd 28 99 = some (.iload 5, 2) := by decide +kernel
theorem c28_101 : qcd 28 101 = some (.istore_n 3, 1) := by decide +kernel
theorem c28_102 : qcd 28 102 = some (.aload_n 0, 1) := by decide +kernel
theorem c28_103 : qcd 28 103 = some (.dup, 1) := by decide +kernel
theorem c28_104 : qcd 28 104 = some (.getfield 57, 3) := by decide +kernel
theorem c28_107 : qcd 28 107 = some (.iconst 1, 1) := by decide +kernel
theorem c28_108 : qcd 28 108 = some (.iadd, 1) := by decide +kernel
theorem c28_109 : qcd 28 109 = some (.putfield 57, 3) := by decide +kernel
theorem c28_112 : qcd 28 112 = some (.iinc 4 (-1), 3) := by decide +kernel
theorem c28_115 : qcd 28 115 = some (.goto (-105), 3) := by decide +kernel
theorem c28_118 : qcd 28 118 = some (.aload_n 0, 1) := by decide +kernel
theorem c28_119 : qcd 28 119 = some (.iconst 1, 1) := by decide +kernel
theorem c28_120 : qcd 28 120 = some (.invokevirtual 78, 3) := by decide +kernel
theorem c28_123 : qcd 28 123 = some (.ireturn, 1) := by decide +kernel
theorem c29_0 : qcd 29 0 = some (.aload_n 0, 1) := by decide +kernel
theorem c29_1 : qcd 29 1 = some (.invokevirtual 74, 3) := by decide +kernel
theorem c29_4 : qcd 29 4 = some (.iload_n 1, 1) := by decide +kernel
theorem c29_5 : qcd 29 5 = some (.if_icmp .eq 9, 3) := by decide +kernel
theorem c29_8 : qcd 29 8 = some (.aload_n 0, 1) := by decide +kernel
theorem c29_9 : qcd 29 9 = some (.iconst 1, 1) := by decide +kernel
theorem c29_10 : qcd 29 10 = some (.invokevirtual 78, 3) := by decide +kernel
theorem c29_13 : qcd 29 13 = some (.ireturn, 1) := by decide +kernel
theorem c29_14 : qcd 29 14 = some (.aload_n 0, 1) := by decide +kernel
theorem c29_15 : qcd 29 15 = some (.dup, 1) := by decide +kernel
theorem c29_16 : qcd 29 16 = some (.getfield 57, 3) := by decide +kernel
theorem c29_19 : qcd 29 19 = some (.iconst 1, 1) := by decide +kernel
theorem c29_20 : qcd 29 20 = some (.iadd, 1) := by decide +kernel
theorem c29_21 : qcd 29 21 = some (.putfield 57, 3) := by decide +kernel
theorem c29_24 : qcd 29 24 = some (.iconst 1, 1) := by decide +kernel
theorem c29_25 : qcd 29 25 = some (.ireturn, 1) := by decide +kernel
theorem c30_0 : qcd 30 0 = some (.aload_n 0, 1) := by decide +kernel
theorem c30_1 : qcd 30 1 = some (.getfield 10, 3) := by decide +kernel
theorem c30_4 : qcd 30 4 = some (.getfield 130, 3) := by decide +kernel
theorem c30_7 : qcd 30 7 = some (.ifCond .ne 7, 3) := by decide +kernel
theorem c30_10 : qcd 30 10 = some (.ldc2_w 325, 3) := by decide +kernel
theorem c30_13 : qcd 30 13 = some (.lreturn, 1) := by decide +kernel
theorem c30_14 : qcd 30 14 = some (.iload_n 1, 1) := by decide +kernel
theorem c30_15 : qcd 30 15 = some (.iconst (-1), 1) := by decide +kernel
theorem c30_16 : qcd 30 16 = some (.if_icmp .eq 18, 3) := by decide +kernel
theorem c30_19 : qcd 30 19 = some (.aload_n 0, 1) := by decide +kernel
theorem c30_20 : qcd 30 20 = some (.getfield 10, 3) := by decide +kernel
theorem c30_23 : qcd 30 23 = some (.iload_n 1, 1) := by decide +kernel
theorem c30_24 : qcd 30 24 = some (.invokevirtual 152, 3) := by decide +kernel
theorem c30_27 : qcd 30 27 = some (.ifCond .ne 7, 3) := by decide +kernel
theorem c30_30 : qcd 30 30 = some (.ldc2_w 272, 3) := by decide +kernel
theorem c30_33 : qcd 30 33 = some (.lreturn, 1) := by decide +kernel
theorem c30_34 : qcd 30 34 = some (.aload_n 0, 1) := by decide +kernel
theorem c30_35 : qcd 30 35 = some (.getfield 76, 3) := by decide +kernel
theorem c30_38 : qcd 30 38 = some (.aload_n 0, 1) := by decide +kernel
theorem c30_39 : qcd 30 39 = some (.getfield 10, 3) := by decide +kernel
theorem c30_42 : qcd 30 42 = some (.aload_n 0, 1) := by decide +kernel
theorem c30_43 : qcd 30 43 = some (.getfield 19, 3) := by decide +kernel
theorem c30_46 : qcd 30 46 = some (.invokevirtual 327, 3) := by decide +kernel
theorem c30_49 : qcd 30 49 = some (.ifCond .ne 7, 3) := by decide +kernel
theorem c30_52 : qcd 30 52 = some (.ldc2_w 325, 3) := by decide +kernel
theorem c30_55 : qcd 30 55 = some (.lreturn, 1) := by decide +kernel
theorem c30_56 : qcd 30 56 = some (.iload_n 1, 1) := by decide +kernel
theorem c30_57 : qcd 30 57 = some (.iconst (-1), 1) := by decide +kernel
theorem c30_58 : qcd 30 58 = some (.if_icmp .ne 16, 3) := by decide +kernel
theorem c30_61 : qcd 30 61 = some (.aload_n 0, 1) := by decide +kernel
theorem c30_62 : qcd 30 62 = some (.getfield 76, 3) := by decide +kernel
theorem c30_65 : qcd 30 65 = some (.getfield 331, 3) := by decide +kernel
theorem c30_68 : qcd 30 68 = some (.iconst 0, 1) := by decide +kernel
theorem c30_69 : qcd 30 69 = some (.iaload, 1) := by decide +kernel
theorem c30_70 : qcd 30 70 = some (.i2l, 1) := by decide +kernel
theorem c30_71 : qcd 30 71 = some (.goto 13, 3) := by decide +kernel
theorem c30_74 : qcd 30 74 = some (.aload_n 0, 1) := by decide +kernel
theorem c30_75 : qcd 30 75 = some (.getfield 76, 3) := by decide +kernel
theorem c30_78 : qcd 30 78 = some (.getfield 334, 3) := by decide +kernel
theorem c30_81 : qcd 30 81 = some (.iload_n 1, 1) := by decide +kernel
theorem c30_82 : qcd 30 82 = some (.iaload, 1) := by decide +kernel
theorem c30_83 : qcd 30 83 = some (.i2l, 1) := by decide +kernel
theorem c30_84 : qcd 30 84 = some (.lreturn, 1) := by decide +kernel
theorem c31_0 : qcd 31 0 = some (.aload_n 0, 1) := by decide +kernel
theorem c31_1 : qcd 31 1 = some (.iload_n 1, 1) := by decide +kernel
theorem c31_2 : qcd 31 2 = some (.invokevirtual 258, 3) := by decide +kernel
theorem c31_5 : qcd 31 5 = some (.ifCond .eq 12, 3) := by decide +kernel
theorem c31_8 : qcd 31 8 = some (.aload_n 0, 1) := by decide +kernel
theorem c31_9 : qcd 31 9 = some (.getfield 27, 3) := by decide +kernel
theorem c31_12 : qcd 31 12 = some (.iload_n 1, 1) := by decide +kernel
theorem c31_13 : qcd 31 13 = some (.iaload, 1) := by decide +kernel
theorem c31_14 : qcd 31 14 = some (.goto 4, 3) := by decide +kernel
theorem c31_17 : qcd 31 17 = some (.iconst (-1), 1) := by decide +kernel
theorem c31_18 : qcd 31 18 = some (.ireturn, 1) := by decide +kernel
theorem c32_0 : qcd 32 0 = some (.aload_n 0, 1) := by decide +kernel
theorem c32_1 : qcd 32 1 = some (.getfield 69, 3) := by decide +kernel
theorem c32_4 : qcd 32 4 = some (.iload_n 1, 1) := by decide +kernel
theorem c32_5 : qcd 32 5 = some (.invokevirtual 309, 3) := by decide +kernel
theorem c32_8 : qcd 32 8 = some (.ifCond .eq 31, 3) := by decide +kernel
theorem c32_11 : qcd 32 11 = some (.aload_n 0, 1) := by decide +kernel
theorem c32_12 : qcd 32 12 = some (.getfield 69, 3) := by decide +kernel
theorem c32_15 : qcd 32 15 = some (.iload_n 2, 1) := by decide +kernel
theorem c32_16 : qcd 32 16 = some (.invokevirtual 309, 3) := by decide +kernel
theorem c32_19 : qcd 32 19 = some (.ifCond .eq 20, 3) := by decide +kernel
theorem c32_22 : qcd 32 22 = some (.iload_n 1, 1) := by decide +kernel
theorem c32_23 : qcd 32 23 = some (.iload_n 2, 1) := by decide +kernel
theorem c32_24 : qcd 32 24 = some (.if_icmp .eq 15, 3) := by decide +kernel
theorem c32_27 : qcd 32 27 = some (.aload_n 0, 1) := by decide +kernel
theorem c32_28 : qcd 32 28 = some (.getfield 69, 3) := by decide +kernel
theorem c32_31 : qcd 32 31 = some (.getfield 312, 3) := by decide +kernel
theorem c32_34 : qcd 32 34 = some (.bipush 100, 2) := by decide +kernel
theorem c32_36 : qcd 32 36 = some (.if_icmp .lt 5, 3) := by decide +kernel
theorem c32_39 : qcd 32 39 = some (.iconst 0, 1) := by decide +kernel
theorem c32_40 : qcd 32 40 = some (.ireturn, 1) := by decide +kernel
theorem c32_41 : qcd 32 41 = some (.aload_n 0, 1) := by decide +kernel
theorem c32_42 : qcd 32 42 = some (.getfield 69, 3) := by decide +kernel
theorem c32_45 : qcd 32 45 = some (.iload_n 1, 1) := by decide +kernel
theorem c32_46 : qcd 32 46 = some (.iload_n 2, 1) := by decide +kernel
theorem c32_47 : qcd 32 47 = some (.invokevirtual 314, 3) := by decide +kernel
theorem c32_50 : qcd 32 50 = some (.iconst 1, 1) := by decide +kernel
theorem c32_51 : qcd 32 51 = some (.ireturn, 1) := by decide +kernel
theorem c33_0 : qcd 33 0 = some (.aload_n 0, 1) := by decide +kernel
theorem c33_1 : qcd 33 1 = some (.getfield 10, 3) := by decide +kernel
theorem c33_4 : qcd 33 4 = some (.iload_n 1, 1) := by decide +kernel
theorem c33_5 : qcd 33 5 = some (.invokevirtual 152, 3) := by decide +kernel
theorem c33_8 : qcd 33 8 = some (.ifCond .eq 13, 3) := by decide +kernel
theorem c33_11 : qcd 33 11 = some (.iload_n 3, 1) := by decide +kernel
theorem c33_12 : qcd 33 12 = some (.iconst 1, 1) := by decide +kernel
theorem c33_13 : qcd 33 13 = some (.bipush 100, 2) := by decide +kernel
theorem c33_15 : qcd 33 15 = some (.invokestatic 108, 3) := by decide +kernel
theorem c33_18 : qcd 33 18 = some (.ifCond .ne 5, 3) := by decide +kernel
theorem c33_21 : qcd 33 21 = some (.iconst 0, 1) := by decide +kernel
theorem c33_22 : qcd 33 22 = some (.ireturn, 1) := by decide +kernel
theorem c33_23 : qcd 33 23 = some (.aload_n 0, 1) := by decide +kernel
theorem c33_24 : qcd 33 24 = some (.getfield 76, 3) := by decide +kernel
theorem c33_27 : qcd 33 27 = some (.getfield 321, 3) := by decide +kernel
theorem c33_30 : qcd 33 30 = some (.iload_n 1, 1) := by decide +kernel
theorem c33_31 : qcd 33 31 = some (.iload_n 2, 1) := by decide +kernel
theorem c33_32 : qcd 33 32 = some (.bastore, 1) := by decide +kernel
theorem c33_33 : qcd 33 33 = some (.aload_n 0, 1) := by decide +kernel
theorem c33_34 : qcd 33 34 = some (.getfield 76, 3) := by decide +kernel
theorem c33_37 : qcd 33 37 = some (.getfield 324, 3) := by decide +kernel
theorem c33_40 : qcd 33 40 = some (.iload_n 1, 1) := by decide +kernel
theorem c33_41 : qcd 33 41 = some (.iload_n 3, 1) := by decide +kernel
theorem c33_42 : qcd 33 42 = some (.iastore, 1) := by decide +kernel
theorem c33_43 : qcd 33 43 = some (.iconst 1, 1) := by decide +kernel
theorem c33_44 : qcd 33 44 = some (.ireturn, 1) := by decide +kernel
theorem c34_0 : qcd 34 0 = some (.aload_n 0, 1) := by decide +kernel
theorem c34_1 : qcd 34 1 = some (.invokevirtual 372, 3) := by decide +kernel
theorem c34_4 : qcd 34 4 = some (.istore 4, 2) := by decide +kernel
theorem c34_6 : qcd 34 6 = some (.aload_n 0, 1) := by decide +kernel
theorem c34_7 : qcd 34 7 = some (.getfield 19, 3) := by decide +kernel
theorem c34_10 : qcd 34 10 = some (.aload_n 0, 1) := by decide +kernel
theorem c34_11 : qcd 34 11 = some (.getfield 19, 3) := by decide +kernel
theorem c34_14 : qcd 34 14 = some (.getfield 161, 3) := by decide +kernel
theorem c34_17 : qcd 34 17 = some (.invokevirtual 350, 3) := by decide +kernel
theorem c34_20 : qcd 34 20 = some (.istore 5, 2) := by decide +kernel
theorem c34_22 : qcd 34 22 = some (.iconst 0, 1) := by decide +kernel
theorem c34_23 : qcd 34 23 = some (.istore 6, 2) := by decide +kernel
theorem c34_25 : qcd 34 25 = some (.iconst (-1), 1) := by decide +kernel
theorem c34_26 : qcd 34 26 = some (.istore 7, 2) := by decide +kernel
theorem c34_28 : qcd 34 28 = some (.iconst 0, 1) := by decide +kernel
theorem c34_29 : qcd 34 29 = some (.istore 8, 2) := by decide +kernel
theorem c34_31 : qcd 34 31 = some (.iconst 0, 1) := by decide +kernel
theorem c34_32 : qcd 34 32 = some (.istore 9, 2) := by decide +kernel
theorem c34_34 : qcd 34 34 = some (.iload 9, 2) := by decide +kernel
theorem c34_36 : qcd 34 36 = some (.iconst 1, 1) := by decide +kernel
theorem c34_37 : qcd 34 37 = some (.iload 4, 2) := by decide +kernel
theorem c34_39 : qcd 34 39 = some (.ishl, 1) := by decide +kernel
theorem c34_40 : qcd 34 40 = some (.if_icmp .ge 104, 3) := by decide +kernel
theorem c34_43 : qcd 34 43 = some (.aload_n 0, 1) := by decide +kernel
theorem c34_44 : qcd 34 44 = some (.iload 9, 2) := by decide +kernel
theorem c34_46 : qcd 34 46 = some (.iload 4, 2) := by decide +kernel
theorem c34_48 : qcd 34 48 = some (.invokevirtual 376, 3) := by decide +kernel
theorem c34_51 : qcd 34 51 = some (.istore 10, 2) := by decide +kernel
theorem c34_53 : qcd 34 53 = some (.iload 7, 2) := by decide +kernel
theorem c34_55 : qcd 34 55 = some (.iload 5, 2) := by decide +kernel
theorem c34_57 : qcd 34 57 = some (.if_icmp .ne 14, 3) := by decide +kernel
theorem c34_60 : qcd 34 60 = some (.iload 10, 2) := by decide +kernel
theorem c34_62 : qcd 34 62 = some (.iload 8, 2) := by decide +kernel
theorem c34_64 : qcd 34 64 = some (.if_icmp .lt 7, 3) := by decide +kernel
theorem c34_67 : qcd 34 67 = some (.iconst 1, 1) := by decide +kernel
theorem c34_68 : qcd 34 68 = some (.goto 4, 3) := by decide +kernel
theorem c34_71 : qcd 34 71 = some (.iconst 0, 1) := by decide +kernel
theorem c34_72 : qcd 34 72 = some (.istore 11, 2) := by decide +kernel
theorem c34_74 : qcd 34 74 = some (.iload 10, 2) := by decide +kernel
theorem c34_76 : qcd 34 76 = some (.iload_n 1, 1) := by decide +kernel
theorem c34_77 : qcd 34 77 = some (.if_icmp .gt 61, 3) := by decide +kernel
theorem c34_80 : qcd 34 80 = some (.iload 11, 2) := by decide +kernel
theorem c34_82 : qcd 34 82 = some (.ifCond .eq 6, 3) := by decide +kernel
theorem c34_85 : qcd 34 85 = some (.goto 53, 3) := by decide +kernel
theorem c34_88 : qcd 34 88 = some (.aload_n 0, 1) := by decide +kernel
theorem c34_89 : qcd 34 89 = some (.iload 9, 2) := by decide +kernel
theorem c34_91 : qcd 34 91 = some (.iload 4, 2) := by decide +kernel
theorem c34_93 : qcd 34 93 = some (.iload_n 2, 1) := by decide +kernel
theorem c34_94 : qcd 34 94 = some (.invokevirtual 379, 3) := by decide +kernel
theorem c34_97 : qcd 34 97 = some (.istore 12, 2) := by decide +kernel
theorem c34_99 : qcd 34 99 = some (.iload 7, 2) := by decide +kernel
theorem c34_101 : qcd 34 101 = some (.iconst (-1), 1) := by decide +kernel
theorem c34_102 : qcd 34 102 = some (.if_icmp .eq 24, 3) := by decide +kernel
theorem c34_105 : qcd 34 105 = some (.iload 12, 2) := by decide +kernel
theorem c34_107 : qcd 34 107 = some (.iload 7, 2) := by decide +kernel
theorem c34_109 : qcd 34 109 = some (.if_icmp .lt 17, 3) := by decide +kernel
theorem c34_112 : qcd 34 112 = some (.iload 12, 2) := by decide +kernel
theorem c34_114 : qcd 34 114 = some (.iload 7, 2) := by decide +kernel
theorem c34_116 : qcd 34 116 = some (.if_icmp .ne 22, 3) := by decide +kernel
theorem c34_119 : qcd 34 119 = some (.iload 10, 2) := by decide +kernel
theorem c34_121 : qcd 34 121 = some (.iload 8, 2) := by decide +kernel
theorem c34_123 : qcd 34 123 = some (.if_icmp .ge 15, 3) := by decide +kernel
theorem c34_126 : qcd 34 126 = some (.iload 9, 2) := by decide +kernel
theorem c34_128 : qcd 34 128 = some (.istore 6, 2) := by decide +kernel
theorem c34_130 : qcd 34 130 = some (.iload 12, 2) := by decide +kernel
theorem c34_132 : qcd 34 132 = some (.istore 7, 2) := by decide +kernel
theorem c34_134 : qcd 34 134 = some (.iload 10, 2) := by decide +kernel
theorem c34_136 : qcd 34 136 = some (.istore 8, 2) := by decide +kernel
theorem c34_138 : qcd 34 138 = some (.iinc 9 1, 3) := by decide +kernel
theorem c34_141 : qcd 34 141 = some (.goto (-107), 3) := by decide +kernel
theorem c34_144 : qcd 34 144 = some (.iload_n 3, 1) := by decide +kernel
theorem c34_145 : qcd 34 145 = some (.ifCond .ne 14, 3) := by decide +kernel
theorem c34_148 : qcd 34 148 = some (.aload_n 0, 1) := by decide +kernel
theorem c34_149 : qcd 34 149 = some (.iload 6, 2) := by decide +kernel
theorem c34_151 : qcd 34 151 = some (.iload 4, 2) := by decide +kernel
theorem c34_153 : qcd 34 153 = some (.invokevirtual 382, 3) := by decide +kernel
theorem c34_156 : qcd 34 156 = some (.goto 5, 3) := by decide +kernel
theorem c34_159 : qcd 34 159 = some (.iload 7, 2) := by decide +kernel
theorem c34_161 : qcd 34 161 = some (.ireturn, 1) := by decide +kernel
theorem c35_0 : qcd 35 0 = some (.iload_n 1, 1) := by decide +kernel
theorem c35_1 : qcd 35 1 = some (.iconst 0, 1) := by decide +kernel
theorem c35_2 : qcd 35 2 = some (.sipush 200, 3) := by decide +kernel
theorem c35_5 : qcd 35 5 = some (.invokestatic 108, 3) := by decide +kernel
theorem c35_8 : qcd 35 8 = some (.ifCond .eq 17, 3) := by decide +kernel
theorem c35_11 : qcd 35 11 = some (.iload_n 1, 1) := by decide +kernel
theorem c35_12 : qcd 35 12 = some (.bipush 12, 2) := by decide +kernel
theorem c35_14 : qcd 35 14 = some (.imul, 1) := by decide +kernel
theorem c35_15 : qcd 35 15 = some (.aload_n 0, 1) := by decide +kernel
theorem c35_16 : qcd 35 16 = some (.getfield 83, 3) := by decide +kernel
theorem c35_19 : qcd 35 19 = some (.getfield 172, 3) := by decide +kernel
theorem c35_22 : qcd 35 22 = some (.if_icmp .le 6, 3) := by decide +kernel
theorem c35_25 : qcd 35 25 = some (.bipush (-2), 2) := by decide +kernel
theorem c35_27 : qcd 35 27 = some (.ireturn, 1) := by decide +kernel
theorem c35_28 : qcd 35 28 = some (.aload_n 0, 1) := by decide +kernel
theorem c35_29 : qcd 35 29 = some (.getfield 83, 3) := by decide +kernel
theorem c35_32 : qcd 35 32 = some (.iconst 0, 1) := by decide +kernel
theorem c35_33 : qcd 35 33 = some (.putfield 172, 3) := by decide +kernel
theorem c35_36 : qcd 35 36 = some (.iconst 0, 1) := by decide +kernel
theorem c35_37 : qcd 35 37 = some (.istore_n 2, 1) := by decide +kernel
theorem c35_38 : qcd 35 38 = some (.iload_n 2, 1) := by decide +kernel
theorem c35_39 : qcd 35 39 = some (.iconst 3, 1) := by decide +kernel
theorem c35_40 : qcd 35 40 = some (.iload_n 1, 1) := by decide +kernel
theorem c35_41 : qcd 35 41 = some (.imul, 1) := by decide +kernel
theorem c35_42 : qcd 35 42 = some (.if_icmp .ge 19, 3) := by decide +kernel
theorem c35_45 : qcd 35 45 = some (.aload_n 0, 1) := by decide +kernel
theorem c35_46 : qcd 35 46 = some (.iload_n 2, 1) := by decide +kernel
theorem c35_47 : qcd 35 47 = some (.invokevirtual 343, 3) := by decide +kernel
theorem c35_50 : qcd 35 50 = some (.ifCond .ne 5, 3) := by decide +kernel
theorem c35_53 : qcd 35 53 = some (.iload_n 2, 1) := by decide +kernel
theorem c35_54 : qcd 35 54 = some (.ireturn, 1) := by decide +kernel
theorem c35_55 : qcd 35 55 = some (.iinc 2 1, 3) := by decide +kernel
theorem c35_58 : qcd 35 58 = some (.goto (-20), 3) := by decide +kernel
theorem c35_61 : qcd 35 61 = some (.iload_n 1, 1) := by decide +kernel
theorem c35_62 : qcd 35 62 = some (.aload_n 0, 1) := by decide +kernel
theorem c35_63 : qcd 35 63 = some (.getfield 10, 3) := by decide +kernel
theorem c35_66 : qcd 35 66 = some (.getfield 119, 3) := by decide +kernel
theorem c35_69 : qcd 35 69 = some (.if_icmp .ge 9, 3) := by decide +kernel
theorem c35_72 : qcd 35 72 = some (.iconst 3, 1) := by decide +kernel
theorem c35_73 : qcd 35 73 = some (.iload_n 1, 1) := by decide +kernel
theorem c35_74 : qcd 35 74 = some (.imul, 1) := by decide +kernel
theorem c35_75 : qcd 35 75 = some (.goto 4, 3) := by decide +kernel
theorem c35_78 : qcd 35 78 = some (.iconst (-1), 1) := by decide +kernel
theorem c35_79 : qcd 35 79 = some (.ireturn, 1) := by decide +kernel
theorem c36_0 : qcd 36 0 = some (.iload_n 1, 1) := by decide +kernel
theorem c36_1 : qcd 36 1 = some (.invokestatic 104, 3) := by decide +kernel
theorem c36_4 : qcd 36 4 = some (.ifCond .eq 30, 3) := by decide +kernel
theorem c36_7 : qcd 36 7 = some (.iload_n 2, 1) := by decide +kernel
theorem c36_8 : qcd 36 8 = some (.iload_n 3, 1) := by decide +kernel
theorem c36_9 : qcd 36 9 = some (.if_icmp .gt 25, 3) := by decide +kernel
theorem c36_12 : qcd 36 12 = some (.iload_n 2, 1) := by decide +kernel
theorem c36_13 : qcd 36 13 = some (.bipush (-100), 2) := by decide +kernel
theorem c36_15 : qcd 36 15 = some (.bipush 100, 2) := by decide +kernel
theorem c36_17 : qcd 36 17 = some (.invokestatic 108, 3) := by decide +kernel
theorem c36_20 : qcd 36 20 = some (.ifCond .eq 14, 3) := by decide +kernel
theorem c36_23 : qcd 36 23 = some (.iload_n 3, 1) := by decide +kernel
theorem c36_24 : qcd 36 24 = some (.bipush (-100), 2) := by decide +kernel
theorem c36_26 : qcd 36 26 = some (.bipush 100, 2) := by decide +kernel
theorem c36_28 : qcd 36 28 = some (.invokestatic 108, 3) := by decide +kernel
theorem c36_31 : qcd 36 31 = some (.ifCond .ne 5, 3) := by decide +kernel
theorem c36_34 : qcd 36 34 = some (.iconst 0, 1) := by decide +kernel
theorem c36_35 : qcd 36 35 = some (.ireturn, 1) := by decide +kernel
theorem c36_36 : qcd 36 36 = some (.aload_n 0, 1) := by decide +kernel
theorem c36_37 : qcd 36 37 = some (.getfield 69, 3) := by decide +kernel
theorem c36_40 : qcd 36 40 = some (.getfield 297, 3) := by decide +kernel
theorem c36_43 : qcd 36 43 = some (.iload_n 1, 1) := by decide +kernel
theorem c36_44 : qcd 36 44 = some (.iload_n 2, 1) := by decide +kernel
theorem c36_45 : qcd 36 45 = some (.iastore, 1) := by decide +kernel
theorem c36_46 : qcd 36 46 = some (.aload_n 0, 1) := by decide +kernel
theorem c36_47 : qcd 36 47 = some (.getfield 69, 3) := by decide +kernel
theorem c36_50 : qcd 36 50 = some (.getfield 300, 3) := by decide +kernel
theorem c36_53 : qcd 36 53 = some (.iload_n 1, 1) := by decide +kernel
theorem c36_54 : qcd 36 54 = some (.iload_n 3, 1) := by decide +kernel
theorem c36_55 : qcd 36 55 = some (.iastore, 1) := by decide +kernel
theorem c36_56 : qcd 36 56 = some (.iconst 1, 1) := by decide +kernel
theorem c36_57 : qcd 36 57 = some (.ireturn, 1) := by decide +kernel
theorem c37_0 : qcd 37 0 = some (.aload_n 0, 1) := by decide +kernel
theorem c37_1 : qcd 37 1 = some (.getfield 48, 3) := by decide +kernel
theorem c37_4 : qcd 37 4 = some (.aload_n 3, 1) := by decide +kernel
theorem c37_5 : qcd 37 5 = some (.invokevirtual 193, 3) := by decide +kernel
theorem c37_8 : qcd 37 8 = some (.aload_n 0, 1) := by decide +kernel
theorem c37_9 : qcd 37 9 = some (.getfield 55, 3) := by decide +kernel
theorem c37_12 : qcd 37 12 = some (.getfield 245, 3) := by decide +kernel
theorem c37_15 : qcd 37 15 = some (.iload_n 1, 1) := by decide +kernel
theorem c37_16 : qcd 37 16 = some (.iaload, 1) := by decide +kernel
theorem c37_17 : qcd 37 17 = some (.iconst 3, 1) := by decide +kernel
theorem c37_18 : qcd 37 18 = some (.if_icmp .ne 32, 3) := by decide +kernel
theorem c37_21 : qcd 37 21 = some (.aload_n 0, 1) := by decide +kernel
theorem c37_22 : qcd 37 22 = some (.getfield 48, 3) := by decide +kernel
theorem c37_25 : qcd 37 25 = some (.getfield 205, 3) := by decide +kernel
theorem c37_28 : qcd 37 28 = some (.dup, 1) := by decide +kernel
theorem c37_29 : qcd 37 29 = some (.getfield 133, 3) := by decide +kernel
theorem c37_32 : qcd 37 32 = some (.iconst 1, 1) := by decide +kernel
theorem c37_33 : qcd 37 33 = some (.aload_n 0, 1) := by decide +kernel
theorem c37_34 : qcd 37 34 = some (.getfield 55, 3) := by decide +kernel
theorem c37_37 : qcd 37 37 = some (.getfield 248, 3) := by decide +kernel
theorem c37_40 : qcd 37 40 = some (.iload_n 1, 1) := by decide +kernel
theorem c37_41 : qcd 37 41 = some (.iaload, 1) := by decide +kernel
theorem c37_42 : qcd 37 42 = some (.ishl, 1) := by decide +kernel
theorem c37_43 : qcd 37 43 = some (.ior, 1) := by decide +kernel
theorem c37_44 : qcd 37 44 = some (.putfield 133, 3) := by decide +kernel
theorem c37_47 : qcd 37 47 = some (.goto 24, 3) := by decide +kernel
theorem c37_50 : qcd 37 50 = some (.aload_n 0, 1) := by decide +kernel
theorem c37_51 : qcd 37 51 = some (.getfield 48, 3) := by decide +kernel
theorem c37_54 : qcd 37 54 = some (.getfield 205, 3) := by decide +kernel
theorem c37_57 : qcd 37 57 = some (.getfield 149, 3) := by decide +kernel
theorem c37_60 : qcd 37 60 = some (.aload_n 0, 1) := by decide +kernel
theorem c37_61 : qcd 37 61 = some (.getfield 55, 3) := by decide +kernel
theorem c37_64 : qcd 37 64 = some (.getfield 248, 3) := by decide +kernel
theorem c37_67 : qcd 37 67 = some (.iload_n 1, 1) := by decide +kernel
theorem c37_68 : qcd 37 68 = some (.iaload, 1) := by decide +kernel
theorem c37_69 : qcd 37 69 = some (.iconst 0, 1) := by decide +kernel
theorem c37_70 : qcd 37 70 = some (.iastore, 1) := by decide +kernel
theorem c37_71 : qcd 37 71 = some (.aload_n 0, 1) := by decide +kernel
theorem c37_72 : qcd 37 72 = some (.getfield 48, 3) := by decide +kernel
theorem c37_75 : qcd 37 75 = some (.aload_n 0, 1) := by decide +kernel
theorem c37_76 : qcd 37 76 = some (.getfield 10, 3) := by decide +kernel
theorem c37_79 : qcd 37 79 = some (.invokevirtual 196, 3) := by decide +kernel
theorem c37_82 : qcd 37 82 = some (.aload_n 0, 1) := by decide +kernel
theorem c37_83 : qcd 37 83 = some (.getfield 48, 3) := by decide +kernel
theorem c37_86 : qcd 37 86 = some (.aload_n 0, 1) := by decide +kernel
theorem c37_87 : qcd 37 87 = some (.getfield 55, 3) := by decide +kernel
theorem c37_90 : qcd 37 90 = some (.getfield 245, 3) := by decide +kernel
theorem c37_93 : qcd 37 93 = some (.iload_n 2, 1) := by decide +kernel
theorem c37_94 : qcd 37 94 = some (.iaload, 1) := by decide +kernel
theorem c37_95 : qcd 37 95 = some (.aload_n 0, 1) := by decide +kernel
theorem c37_96 : qcd 37 96 = some (.getfield 55, 3) := by decide +kernel
theorem c37_99 : qcd 37 99 = some (.getfield 248, 3) := by decide +kernel
theorem c37_102 : qcd 37 102 = some (.iload_n 2, 1) := by decide +kernel
theorem c37_103 : qcd 37 103 = some (.iaload, 1) := by decide +kernel
theorem c37_104 : qcd 37 104 = some (.invokevirtual 363, 3) := by decide +kernel
theorem c37_107 : qcd 37 107 = some (.ireturn, 1) := by decide +kernel
theorem c38_0 : qcd 38 0 = some (.iload_n 1, 1) := by decide +kernel
theorem c38_1 : qcd 38 1 = some (.iconst 0, 1) := by decide +kernel
theorem c38_2 : qcd 38 2 = some (.sipush 1000, 3) := by decide +kernel
theorem c38_5 : qcd 38 5 = some (.invokestatic 108, 3) := by decide +kernel
theorem c38_8 : qcd 38 8 = some (.ifCond .ne 5, 3) := by decide +kernel
theorem c38_11 : qcd 38 11 = some (.iconst 0, 1) := by decide +kernel
theorem c38_12 : qcd 38 12 = some (.ireturn, 1) := by decide +kernel
theorem c38_13 : qcd 38 13 = some (.aload_n 0, 1) := by decide +kernel
theorem c38_14 : qcd 38 14 = some (.getfield 10, 3) := by decide +kernel
theorem c38_17 : qcd 38 17 = some (.iload_n 1, 1) := by decide +kernel
theorem c38_18 : qcd 38 18 = some (.putfield 146, 3) := by decide +kernel
theorem c38_21 : qcd 38 21 = some (.iconst 1, 1) := by decide +kernel
theorem c38_22 : qcd 38 22 = some (.ireturn, 1) := by decide +kernel
theorem c39_0 : qcd 39 0 = some (.aload_n 0, 1) := by decide +kernel
theorem c39_1 : qcd 39 1 = some (.getfield 10, 3) := by decide +kernel
theorem c39_4 : qcd 39 4 = some (.iload_n 1, 1) := by decide +kernel
theorem c39_5 : qcd 39 5 = some (.invokevirtual 140, 3) := by decide +kernel
theorem c39_8 : qcd 39 8 = some (.ifCond .eq 14, 3) := by decide +kernel
theorem c39_11 : qcd 39 11 = some (.iload_n 2, 1) := by decide +kernel
theorem c39_12 : qcd 39 12 = some (.iconst 1, 1) := by decide +kernel
theorem c39_13 : qcd 39 13 = some (.sipush 1000, 3) := by decide +kernel
theorem c39_16 : qcd 39 16 = some (.invokestatic 108, 3) := by decide +kernel
theorem c39_19 : qcd 39 19 = some (.ifCond .ne 5, 3) := by decide +kernel
theorem c39_22 : qcd 39 22 = some (.iconst 0, 1) := by decide +kernel
theorem c39_23 : qcd 39 23 = some (.ireturn, 1) := by decide +kernel
theorem c39_24 : qcd 39 24 = some (.aload_n 0, 1) := by decide +kernel
theorem c39_25 : qcd 39 25 = some (.getfield 10, 3) := by decide +kernel
theorem c39_28 : qcd 39 28 = some (.getfield 337, 3) := by decide +kernel
theorem c39_31 : qcd 39 31 = some (.iload_n 1, 1) := by decide +kernel
theorem c39_32 : qcd 39 32 = some (.iload_n 2, 1) := by decide +kernel
theorem c39_33 : qcd 39 33 = some (.iastore, 1) := by decide +kernel
theorem c39_34 : qcd 39 34 = some (.iconst 1, 1) := by decide +kernel
theorem c39_35 : qcd 39 35 = some (.ireturn, 1) := by decide +kernel
theorem c40_0 : qcd 40 0 = some (.iload_n 1, 1) := by decide +kernel
theorem c40_1 : qcd 40 1 = some (.bipush 20, 2) := by decide +kernel
theorem c40_3 : qcd 40 3 = some (.if_icmp .lt 17, 3) := by decide +kernel
theorem c40_6 : qcd 40 6 = some (.iload_n 1, 1) := by decide +kernel
theorem c40_7 : qcd 40 7 = some (.bipush 20, 2) := by decide +kernel
theorem c40_9 : qcd 40 9 = some (.isub, 1) := by decide +kernel
theorem c40_10 : qcd 40 10 = some (.aload_n 0, 1) := by decide +kernel
theorem c40_11 : qcd 40 11 = some (.getfield 10, 3) := by decide +kernel
theorem c40_14 : qcd 40 14 = some (.getfield 119, 3) := by decide +kernel
theorem c40_17 : qcd 40 17 = some (.if_icmp .lt 5, 3) := by decide +kernel
theorem c40_20 : qcd 40 20 = some (.iconst (-1), 1) := by decide +kernel
theorem c40_21 : qcd 40 21 = some (.ireturn, 1) := by decide +kernel
theorem c40_22 : qcd 40 22 = some (.aload_n 0, 1) := by decide +kernel
theorem c40_23 : qcd 40 23 = some (.getfield 10, 3) := by decide +kernel
theorem c40_26 : qcd 40 26 = some (.getfield 337, 3) := by decide +kernel
theorem c40_29 : qcd 40 29 = some (.iload_n 1, 1) := by decide +kernel
theorem c40_30 : qcd 40 30 = some (.bipush 20, 2) := by decide +kernel
theorem c40_32 : qcd 40 32 = some (.isub, 1) := by decide +kernel
theorem c40_33 : qcd 40 33 = some (.iaload, 1) := by decide +kernel
theorem c40_34 : qcd 40 34 = some (.ireturn, 1) := by decide +kernel
theorem c41_0 : qcd 41 0 = some (.iconst 0, 1) := by decide +kernel
theorem c41_1 : qcd 41 1 = some (.istore_n 3, 1) := by decide +kernel
theorem c41_2 : qcd 41 2 = some (.iconst 0, 1) := by decide +kernel
theorem c41_3 : qcd 41 3 = some (.istore 4, 2) := by decide +kernel
theorem c41_5 : qcd 41 5 = some (.iload 4, 2) := by decide +kernel
theorem c41_7 : qcd 41 7 = some (.iload_n 2, 1) := by decide +kernel
theorem c41_8 : qcd 41 8 = some (.if_icmp .ge 37, 3) := by decide +kernel
theorem c41_11 : qcd 41 11 = some (.iload_n 1, 1) := by decide +kernel
theorem c41_12 : qcd 41 12 = some (.iload 4, 2) := by decide +kernel
theorem c41_14 : qcd 41 14 = some (.ishr, 1) := by decide +kernel
theorem c41_15 : qcd 41 15 = some (.iconst 1, 1) := by decide +kernel
theorem c41_16 : qcd 41 16 = some (.iand, 1) := by decide +kernel
theorem c41_17 : qcd 41 17 = some (.iconst 1, 1) := by decide +kernel
theorem c41_18 : qcd 41 18 = some (.if_icmp .ne 21, 3) := by decide +kernel
theorem c41_21 : qcd 41 21 = some (.iload_n 3, 1) := by decide +kernel
theorem c41_22 : qcd 41 22 = some (.aload_n 0, 1) := by decide +kernel
theorem c41_23 : qcd 41 23 = some (.getfield 10, 3) := by decide +kernel
theorem c41_26 : qcd 41 26 = some (.getfield 337, 3) := by decide +kernel
theorem c41_29 : qcd 41 29 = some (.aload_n 0, 1) := by decide +kernel
theorem c41_30 : qcd 41 30 = some (.getfield 87, 3) := by decide +kernel
theorem c41_33 : qcd 41 33 = some (.iload 4, 2) := by decide +kernel
theorem c41_35 : qcd 41 35 = some (.iaload, 1) := by decide +kernel
theorem c41_36 : qcd 41 36 = some (.iaload, 1) := by decide +kernel
theorem c41_37 : qcd 41 37 = some (.iadd, 1) := by decide +kernel
theorem c41_38 : qcd 41 38 = some (.istore_n 3, 1) := by decide +kernel
theorem c41_39 : qcd 41 39 = some (.iinc 4 1, 3) := by decide +kernel
theorem c41_42 : qcd 41 42 = some (.goto (-37), 3) := by decide +kernel
theorem c41_45 : qcd 41 45 = some (.iload_n 3, 1) := by decide +kernel
theorem c41_46 : qcd 41 46 = some (.ireturn, 1) := by decide +kernel
theorem c42_0 : qcd 42 0 = some (.iload_n 1, 1) := by decide +kernel
theorem c42_1 : qcd 42 1 = some (.tableswitch 157 0 10 #[59, 67, 75, 83, 91, 99, 110, 118, 126, 134, 142], 59) := by decide +kernel
theorem c42_60 : qcd 42 60 = some (.aload_n 0, 1) := by decide +kernel
theorem c42_61 : qcd 42 61 = some (.getfield 19, 3) := by decide +kernel
theorem c42_64 : qcd 42 64 = some (.getfield 97, 3) := by decide +kernel
theorem c42_67 : qcd 42 67 = some (.ireturn, 1) := by decide +kernel
theorem c42_68 : qcd 42 68 = some (.aload_n 0, 1) := by decide +kernel
theorem c42_69 : qcd 42 69 = some (.getfield 10, 3) := by decide +kernel
theorem c42_72 : qcd 42 72 = some (.getfield 101, 3) := by decide +kernel
theorem c42_75 : qcd 42 75 = some (.ireturn, 1) := by decide +kernel
theorem c42_76 : qcd 42 76 = some (.aload_n 0, 1) := by decide +kernel
theorem c42_77 : qcd 42 77 = some (.getfield 10, 3) := by decide +kernel
theorem c42_80 : qcd 42 80 = some (.getfield 119, 3) := by decide +kernel
theorem c42_83 : qcd 42 83 = some (.ireturn, 1) := by decide +kernel
theorem c42_84 : qcd 42 84 = some (.aload_n 0, 1) := by decide +kernel
theorem c42_85 : qcd 42 85 = some (.getfield 10, 3) := by decide +kernel
theorem c42_88 : qcd 42 88 = some (.getfield 130, 3) := by decide +kernel
theorem c42_91 : qcd 42 91 = some (.ireturn, 1) := by decide +kernel
theorem c42_92 : qcd 42 92 = some (.aload_n 0, 1) := by decide +kernel
theorem c42_93 : qcd 42 93 = some (.getfield 55, 3) := by decide +kernel
theorem c42_96 : qcd 42 96 = some (.getfield 346, 3) := by decide +kernel
theorem c42_99 : qcd 42 99 = some (.ireturn, 1) := by decide +kernel
theorem c42_100 : qcd 42 100 = some (.aload_n 0, 1) := by decide +kernel
theorem c42_101 : qcd 42 101 = some (.getfield 10, 3) := by decide +kernel
theorem c42_104 : qcd 42 104 = some (.getfield 182, 3) := by decide +kernel
theorem c42_107 : qcd 42 107 = some (.getfield 347, 3) := by decide +kernel
theorem c42_110 : qcd 42 110 = some (.ireturn, 1) := by decide +kernel
theorem c42_111 : qcd 42 111 = some (.aload_n 0, 1) := by decide +kernel
theorem c42_112 : qcd 42 112 = some (.getfield 69, 3) := by decide +kernel
theorem c42_115 : qcd 42 115 = some (.getfield 303, 3) := by decide +kernel
theorem c42_118 : qcd 42 118 = some (.ireturn, 1) := by decide +kernel
theorem c42_119 : qcd 42 119 = some (.aload_n 0, 1) := by decide +kernel
theorem c42_120 : qcd 42 120 = some (.getfield 69, 3) := by decide +kernel
theorem c42_123 : qcd 42 123 = some (.getfield 312, 3) := by decide +kernel
theorem c42_126 : qcd 42 126 = some (.ireturn, 1) := by decide +kernel
theorem c42_127 : qcd 42 127 = some (.aload_n 0, 1) := by decide +kernel
theorem c42_128 : qcd 42 128 = some (.getfield 83, 3) := by decide +kernel
theorem c42_131 : qcd 42 131 = some (.getfield 172, 3) := by decide +kernel
theorem c42_134 : qcd 42 134 = some (.ireturn, 1) := by decide +kernel
theorem c42_135 : qcd 42 135 = some (.aload_n 0, 1) := by decide +kernel
theorem c42_136 : qcd 42 136 = some (.getfield 10, 3) := by decide +kernel
theorem c42_139 : qcd 42 139 = some (.getfield 146, 3) := by decide +kernel
theorem c42_142 : qcd 42 142 = some (.ireturn, 1) := by decide +kernel
theorem c42_143 : qcd 42 143 = some (.aload_n 0, 1) := by decide +kernel
theorem c42_144 : qcd 42 144 = some (.getfield 19, 3) := by decide +kernel
theorem c42_147 : qcd 42 147 = some (.aload_n 0, 1) := by decide +kernel
theorem c42_148 : qcd 42 148 = some (.getfield 19, 3) := by decide +kernel
theorem c42_151 : qcd 42 151 = some (.getfield 161, 3) := by decide +kernel
theorem c42_154 : qcd 42 154 = some (.invokevirtual 350, 3) := by decide +kernel
theorem c42_157 : qcd 42 157 = some (.ireturn, 1) := by decide +kernel
theorem c42_158 : qcd 42 158 = some (.aload_n 0, 1) := by decide +kernel
theorem c42_159 : qcd 42 159 = some (.iload_n 1, 1) := by decide +kernel
theorem c42_160 : qcd 42 160 = some (.invokevirtual 353, 3) := by decide +kernel
theorem c42_163 : qcd 42 163 = some (.ireturn, 1) := by decide +kernel
theorem c43_0 : qcd 43 0 = some (.iload_n 1, 1) := by decide +kernel
theorem c43_1 : qcd 43 1 = some (.iconst 0, 1) := by decide +kernel
theorem c43_2 : qcd 43 2 = some (.sipush 10000, 3) := by decide +kernel
theorem c43_5 : qcd 43 5 = some (.invokestatic 108, 3) := by decide +kernel
theorem c43_8 : qcd 43 8 = some (.ifCond .eq 22, 3) := by decide +kernel
theorem c43_11 : qcd 43 11 = some (.iload_n 2, 1) := by decide +kernel
theorem c43_12 : qcd 43 12 = some (.iconst 1, 1) := by decide +kernel
theorem c43_13 : qcd 43 13 = some (.bipush 30, 2) := by decide +kernel
theorem c43_15 : qcd 43 15 = some (.invokestatic 108, 3) := by decide +kernel
theorem c43_18 : qcd 43 18 = some (.ifCond .eq 12, 3) := by decide +kernel
theorem c43_21 : qcd 43 21 = some (.iload_n 3, 1) := by decide +kernel
theorem c43_22 : qcd 43 22 = some (.iconst 0, 1) := by decide +kernel
theorem c43_23 : qcd 43 23 = some (.iconst 1, 1) := by decide +kernel
theorem c43_24 : qcd 43 24 = some (.invokestatic 108, 3) := by decide +kernel
theorem c43_27 : qcd 43 27 = some (.ifCond .ne 5, 3) := by decide +kernel
theorem c43_30 : qcd 43 30 = some (.iconst (-1), 1) := by decide +kernel
theorem c43_31 : qcd 43 31 = some (.ireturn, 1) := by decide +kernel
theorem c43_32 : qcd 43 32 = some (.aload_n 0, 1) := by decide +kernel
theorem c43_33 : qcd 43 33 = some (.iload_n 1, 1) := by decide +kernel
theorem c43_34 : qcd 43 34 = some (.iload_n 2, 1) := by decide +kernel
theorem c43_35 : qcd 43 35 = some (.iload_n 3, 1) := by decide +kernel
theorem c43_36 : qcd 43 36 = some (.invokevirtual 340, 3) := by decide +kernel
theorem c43_39 : qcd 43 39 = some (.ireturn, 1) := by decide +kernel
theorem c44_0 : qcd 44 0 = some (.aload_n 0, 1) := by decide +kernel
theorem c44_1 : qcd 44 1 = some (.getfield 48, 3) := by decide +kernel
theorem c44_4 : qcd 44 4 = some (.aload_n 0, 1) := by decide +kernel
theorem c44_5 : qcd 44 5 = some (.getfield 19, 3) := by decide +kernel
theorem c44_8 : qcd 44 8 = some (.invokevirtual 193, 3) := by decide +kernel
theorem c44_11 : qcd 44 11 = some (.iconst 0, 1) := by decide +kernel
theorem c44_12 : qcd 44 12 = some (.istore 4, 2) := by decide +kernel
theorem c44_14 : qcd 44 14 = some (.iload 4, 2) := by decide +kernel
theorem c44_16 : qcd 44 16 = some (.iload_n 2, 1) := by decide +kernel
theorem c44_17 : qcd 44 17 = some (.if_icmp .ge 38, 3) := by decide +kernel
theorem c44_20 : qcd 44 20 = some (.iload_n 1, 1) := by decide +kernel
theorem c44_21 : qcd 44 21 = some (.iload 4, 2) := by decide +kernel
theorem c44_23 : qcd 44 23 = some (.ishr, 1) := by decide +kernel
theorem c44_24 : qcd 44 24 = some (.iconst 1, 1) := by decide +kernel
theorem c44_25 : qcd 44 25 = some (.iand, 1) := by decide +kernel
theorem c44_26 : qcd 44 26 = some (.iconst 1, 1) := by decide +kernel
theorem c44_27 : qcd 44 27 = some (.if_icmp .ne 22, 3) := by decide +kernel
theorem c44_30 : qcd 44 30 = some (.aload_n 0, 1) := by decide +kernel
theorem c44_31 : qcd 44 31 = some (.getfield 48, 3) := by decide +kernel
theorem c44_34 : qcd 44 34 = some (.getfield 205, 3) := by decide +kernel
theorem c44_37 : qcd 44 37 = some (.getfield 143, 3) := by decide +kernel
theorem c44_40 : qcd 44 40 = some (.aload_n 0, 1) := by decide +kernel
theorem c44_41 : qcd 44 41 = some (.getfield 87, 3) := by decide +kernel
theorem c44_44 : qcd 44 44 = some (.iload 4, 2) := by decide +kernel
theorem c44_46 : qcd 44 46 = some (.iaload, 1) := by decide +kernel
theorem c44_47 : qcd 44 47 = some (.iconst 0, 1) := by decide +kernel
theorem c44_48 : qcd 44 48 = some (.iastore, 1) := by decide +kernel
theorem c44_49 : qcd 44 49 = some (.iinc 4 1, 3) := by decide +kernel
theorem c44_52 : qcd 44 52 = some (.goto (-38), 3) := by decide +kernel
theorem c44_55 : qcd 44 55 = some (.iconst 0, 1) := by decide +kernel
theorem c44_56 : qcd 44 56 = some (.istore 4, 2) := by decide +kernel
theorem c44_58 : qcd 44 58 = some (.iload 4, 2) := by decide +kernel
theorem c44_60 : qcd 44 60 = some (.iload_n 3, 1) := by decide +kernel
theorem c44_61 : qcd 44 61 = some (.if_icmp .ge 20, 3) := by decide +kernel
theorem c44_64 : qcd 44 64 = some (.aload_n 0, 1) := by decide +kernel
theorem c44_65 : qcd 44 65 = some (.getfield 48, 3) := by decide +kernel
theorem c44_68 : qcd 44 68 = some (.aload_n 0, 1) := by decide +kernel
theorem c44_69 : qcd 44 69 = some (.getfield 10, 3) := by decide +kernel
theorem c44_72 : qcd 44 72 = some (.invokevirtual 196, 3) := by decide +kernel
theorem c44_75 : qcd 44 75 = some (.iinc 4 1, 3) := by decide +kernel
theorem c44_78 : qcd 44 78 = some (.goto (-20), 3) := by decide +kernel
theorem c44_81 : qcd 44 81 = some (.aload_n 0, 1) := by decide +kernel
theorem c44_82 : qcd 44 82 = some (.getfield 48, 3) := by decide +kernel
theorem c44_85 : qcd 44 85 = some (.getfield 205, 3) := by decide +kernel
theorem c44_88 : qcd 44 88 = some (.aload_n 0, 1) := by decide +kernel
theorem c44_89 : qcd 44 89 = some (.getfield 48, 3) := by decide +kernel
theorem c44_92 : qcd 44 92 = some (.getfield 205, 3) := by decide +kernel
theorem c44_95 : qcd 44 95 = some (.getfield 161, 3) := by decide +kernel
theorem c44_98 : qcd 44 98 = some (.invokevirtual 350, 3) := by decide +kernel
theorem c44_101 : qcd 44 101 = some (.ireturn, 1) := by decide +kernel
theorem c45_0 : qcd 45 0 = some (.aload_n 0, 1) := by decide +kernel
theorem c45_1 : qcd 45 1 = some (.getfield 55, 3) := by decide +kernel
theorem c45_4 : qcd 45 4 = some (.iload_n 1, 1) := by decide +kernel
theorem c45_5 : qcd 45 5 = some (.invokevirtual 242, 3) := by decide +kernel
theorem c45_8 : qcd 45 8 = some (.ifCond .ne 5, 3) := by decide +kernel
theorem c45_11 : qcd 45 11 = some (.iconst (-1), 1) := by decide +kernel
theorem c45_12 : qcd 45 12 = some (.ireturn, 1) := by decide +kernel
theorem c45_13 : qcd 45 13 = some (.iload_n 2, 1) := by decide +kernel
theorem c45_14 : qcd 45 14 = some (.tableswitch 66 0 3 #[30, 40, 50, 60], 30) := by decide +kernel
theorem c45_44 : qcd 45 44 = some (.aload_n 0, 1) := by decide +kernel
theorem c45_45 : qcd 45 45 = some (.getfield 55, 3) := by decide +kernel
theorem c45_48 : qcd 45 48 = some (.getfield 245, 3) := by decide +kernel
theorem c45_51 : qcd 45 51 = some (.iload_n 1, 1) := by decide +kernel
theorem c45_52 : qcd 45 52 = some (.iaload, 1) := by decide +kernel
theorem c45_53 : qcd 45 53 = some (.ireturn, 1) := by decide +kernel
theorem c45_54 : qcd 45 54 = some (.aload_n 0, 1) := by decide +kernel
theorem c45_55 : qcd 45 55 = some (.getfield 55, 3) := by decide +kernel
theorem c45_58 : qcd 45 58 = some (.getfield 248, 3) := by decide +kernel
theorem c45_61 : qcd 45 61 = some (.iload_n 1, 1) := by decide +kernel
theorem c45_62 : qcd 45 62 = some (.iaload, 1) := by decide +kernel
theorem c45_63 : qcd 45 63 = some (.ireturn, 1) := by decide +kernel
theorem c45_64 : qcd 45 64 = some (.aload_n 0, 1) := by decide +kernel
theorem c45_65 : qcd 45 65 = some (.getfield 55, 3) := by decide +kernel
theorem c45_68 : qcd 45 68 = some (.getfield 251, 3) := by decide +kernel
theorem c45_71 : qcd 45 71 = some (.iload_n 1, 1) := by decide +kernel
theorem c45_72 : qcd 45 72 = some (.iaload, 1) := by decide +kernel
theorem c45_73 : qcd 45 73 = some (.ireturn, 1) := by decide +kernel
theorem c45_74 : qcd 45 74 = some (.aload_n 0, 1) := by decide +kernel
theorem c45_75 : qcd 45 75 = some (.iload_n 1, 1) := by decide +kernel
theorem c45_76 : qcd 45 76 = some (.invokevirtual 254, 3) := by decide +kernel
theorem c45_79 : qcd 45 79 = some (.ireturn, 1) := by decide +kernel
theorem c45_80 : qcd 45 80 = some (.iconst (-1), 1) := by decide +kernel
theorem c45_81 : qcd 45 81 = some (.ireturn, 1) := by decide +kernel
theorem c46_0 : qcd 46 0 = some (.aload_n 0, 1) := by decide +kernel
theorem c46_1 : qcd 46 1 = some (.getfield 83, 3) := by decide +kernel
theorem c46_4 : qcd 46 4 = some (.invokevirtual 164, 3) := by decide +kernel
theorem c46_7 : qcd 46 7 = some (.ifCond .ne 5, 3) := by decide +kernel
theorem c46_10 : qcd 46 10 = some (.iconst (-1), 1) := by decide +kernel
theorem c46_11 : qcd 46 11 = some (.ireturn, 1) := by decide +kernel
theorem c46_12 : qcd 46 12 = some (.aload_n 0, 1) := by decide +kernel
theorem c46_13 : qcd 46 13 = some (.getfield 83, 3) := by decide +kernel
theorem c46_16 : qcd 46 16 = some (.iload_n 1, 1) := by decide +kernel
theorem c46_17 : qcd 46 17 = some (.invokevirtual 168, 3) := by decide +kernel
theorem c46_20 : qcd 46 20 = some (.aload_n 0, 1) := by decide +kernel
theorem c46_21 : qcd 46 21 = some (.getfield 83, 3) := by decide +kernel
theorem c46_24 : qcd 46 24 = some (.iload_n 2, 1) := by decide +kernel
theorem c46_25 : qcd 46 25 = some (.invokevirtual 168, 3) := by decide +kernel
theorem c46_28 : qcd 46 28 = some (.aload_n 0, 1) := by decide +kernel
theorem c46_29 : qcd 46 29 = some (.getfield 83, 3) := by decide +kernel
theorem c46_32 : qcd 46 32 = some (.iload_n 3, 1) := by decide +kernel
theorem c46_33 : qcd 46 33 = some (.invokevirtual 168, 3) := by decide +kernel
theorem c46_36 : qcd 46 36 = some (.aload_n 0, 1) := by decide +kernel
theorem c46_37 : qcd 46 37 = some (.getfield 83, 3) := by decide +kernel
theorem c46_40 : qcd 46 40 = some (.iload 4, 2) := by decide +kernel
theorem c46_42 : qcd 46 42 = some (.invokevirtual 168, 3) := by decide +kernel
theorem c46_45 : qcd 46 45 = some (.aload_n 0, 1) := by decide +kernel
theorem c46_46 : qcd 46 46 = some (.getfield 83, 3) := by decide +kernel
theorem c46_49 : qcd 46 49 = some (.iload 5, 2) := by decide +kernel
theorem c46_51 : qcd 46 51 = some (.invokevirtual 168, 3) := by decide +kernel
theorem c46_54 : qcd 46 54 = some (.aload_n 0, 1) := by decide +kernel
theorem c46_55 : qcd 46 55 = some (.getfield 83, 3) := by decide +kernel
theorem c46_58 : qcd 46 58 = some (.getfield 172, 3) := by decide +kernel
theorem c46_61 : qcd 46 61 = some (.ireturn, 1) := by decide +kernel
theorem c47_0 : qcd 47 0 = some (.iconst 0, 1) := by decide +kernel
theorem c47_1 : qcd 47 1 = some (.istore_n 1, 1) := by decide +kernel
theorem c47_2 : qcd 47 2 = some (.iconst 0, 1) := by decide +kernel
theorem c47_3 : qcd 47 3 = some (.istore_n 2, 1) := by decide +kernel
theorem c47_4 : qcd 47 4 = some (.iload_n 2, 1) := by decide +kernel
theorem c47_5 : qcd 47 5 = some (.aload_n 0, 1) := by decide +kernel
theorem c47_6 : qcd 47 6 = some (.getfield 10, 3) := by decide +kernel
theorem c47_9 : qcd 47 9 = some (.getfield 119, 3) := by decide +kernel
theorem c47_12 : qcd 47 12 = some (.if_icmp .ge 49, 3) := by decide +kernel
theorem c47_15 : qcd 47 15 = some (.iload_n 1, 1) := by decide +kernel
theorem c47_16 : qcd 47 16 = some (.bipush 8, 2) := by decide +kernel
theorem c47_18 : qcd 47 18 = some (.if_icmp .ge 43, 3) := by decide +kernel
theorem c47_21 : qcd 47 21 = some (.aload_n 0, 1) := by decide +kernel
theorem c47_22 : qcd 47 22 = some (.getfield 19, 3) := by decide +kernel
theorem c47_25 : qcd 47 25 = some (.getfield 149, 3) := by decide +kernel
theorem c47_28 : qcd 47 28 = some (.iload_n 2, 1) := by decide +kernel
theorem c47_29 : qcd 47 29 = some (.iaload, 1) := by decide +kernel
theorem c47_30 : qcd 47 30 = some (.ifCond .ne 25, 3) := by decide +kernel
theorem c47_33 : qcd 47 33 = some (.aload_n 0, 1) := by decide +kernel
theorem c47_34 : qcd 47 34 = some (.getfield 19, 3) := by decide +kernel
theorem c47_37 : qcd 47 37 = some (.getfield 143, 3) := by decide +kernel
theorem c47_40 : qcd 47 40 = some (.iload_n 2, 1) := by decide +kernel
theorem c47_41 : qcd 47 41 = some (.iaload, 1) := by decide +kernel
theorem c47_42 : qcd 47 42 = some (.ifCond .le 13, 3) := by decide +kernel
theorem c47_45 : qcd 47 45 = some (.aload_n 0, 1) := by decide +kernel
theorem c47_46 : qcd 47 46 = some (.getfield 87, 3) := by decide +kernel
theorem c47_49 : qcd 47 49 = some (.iload_n 1, 1) := by decide +kernel
theorem c47_50 : qcd 47 50 = some (.iload_n 2, 1) := by decide +kernel
theorem c47_51 : qcd 47 51 = some (.iastore, 1) := by decide +kernel
theorem c47_52 : qcd 47 52 = some (.iinc 1 1, 3) := by decide +kernel
theorem c47_55 : qcd 47 55 = some (.iinc 2 1, 3) := by decide +kernel
theorem c47_58 : qcd 47 58 = some (.goto (-54), 3) := by decide +kernel
theorem c47_61 : qcd 47 61 = some (.iload_n 1, 1) := by decide +kernel
theorem c47_62 : qcd 47 62 = some (.ireturn, 1) := by decide +kernel
theorem c48_0 : qcd 48 0 = some (.iconst 0, 1) := by decide +kernel
theorem c48_1 : qcd 48 1 = some (.istore_n 1, 1) := by decide +kernel
theorem c48_2 : qcd 48 2 = some (.iload_n 1, 1) := by decide +kernel
theorem c48_3 : qcd 48 3 = some (.aload_n 0, 1) := by decide +kernel
theorem c48_4 : qcd 48 4 = some (.getfield 19, 3) := by decide +kernel
theorem c48_7 : qcd 48 7 = some (.getfield 97, 3) := by decide +kernel
theorem c48_10 : qcd 48 10 = some (.if_icmp .ge 27, 3) := by decide +kernel
theorem c48_13 : qcd 48 13 = some (.iload_n 1, 1) := by decide +kernel
theorem c48_14 : qcd 48 14 = some (.sipush 499, 3) := by decide +kernel
theorem c48_17 : qcd 48 17 = some (.if_icmp .ge 20, 3) := by decide +kernel
theorem c48_20 : qcd 48 20 = some (.aload_n 0, 1) := by decide +kernel
theorem c48_21 : qcd 48 21 = some (.getfield 27, 3) := by decide +kernel
theorem c48_24 : qcd 48 24 = some (.iload_n 1, 1) := by decide +kernel
theorem c48_25 : qcd 48 25 = some (.iaload, 1) := by decide +kernel
theorem c48_26 : qcd 48 26 = some (.ifCond .eq 5, 3) := by decide +kernel
theorem c48_29 : qcd 48 29 = some (.iload_n 1, 1) := by decide +kernel
theorem c48_30 : qcd 48 30 = some (.ireturn, 1) := by decide +kernel
theorem c48_31 : qcd 48 31 = some (.iinc 1 1, 3) := by decide +kernel
theorem c48_34 : qcd 48 34 = some (.goto (-32), 3) := by decide +kernel
theorem c48_37 : qcd 48 37 = some (.iconst (-1), 1) := by decide +kernel
theorem c48_38 : qcd 48 38 = some (.ireturn, 1) := by decide +kernel
theorem c49_0 : qcd 49 0 = some (.aload_n 0, 1) := by decide +kernel
theorem c49_1 : qcd 49 1 = some (.aload_n 0, 1) := by decide +kernel
theorem c49_2 : qcd 49 2 = some (.getfield 55, 3) := by decide +kernel
theorem c49_5 : qcd 49 5 = some (.getfield 251, 3) := by decide +kernel
theorem c49_8 : qcd 49 8 = some (.iload_n 1, 1) := by decide +kernel
theorem c49_9 : qcd 49 9 = some (.iaload, 1) := by decide +kernel
theorem c49_10 : qcd 49 10 = some (.invokevirtual 285, 3) := by decide +kernel
theorem c49_13 : qcd 49 13 = some (.astore_n 2, 1) := by decide +kernel
theorem c49_14 : qcd 49 14 = some (.aload_n 2, 1) := by decide +kernel
theorem c49_15 : qcd 49 15 = some (.ifnonnull 5, 3) := by decide +kernel
theorem c49_18 : qcd 49 18 = some (.iconst (-1), 1) := by decide +kernel
theorem c49_19 : qcd 49 19 = some (.ireturn, 1) := by decide +kernel
theorem c49_20 : qcd 49 20 = some (.iconst 0, 1) := by decide +kernel
theorem c49_21 : qcd 49 21 = some (.istore_n 3, 1) := by decide +kernel
theorem c49_22 : qcd 49 22 = some (.iload_n 3, 1) := by decide +kernel
theorem c49_23 : qcd 49 23 = some (.iload_n 1, 1) := by decide +kernel
theorem c49_24 : qcd 49 24 = some (.if_icmp .ge 68, 3) := by decide +kernel
theorem c49_27 : qcd 49 27 = some (.aload_n 0, 1) := by decide +kernel
theorem c49_28 : qcd 49 28 = some (.getfield 55, 3) := by decide +kernel
theorem c49_31 : qcd 49 31 = some (.getfield 251, 3) := by decide +kernel
theorem c49_34 : qcd 49 34 = some (.iload_n 3, 1) := by decide +kernel
theorem c49_35 : qcd 49 35 = some (.iaload, 1) := by decide +kernel
theorem c49_36 : qcd 49 36 = some (.aload_n 0, 1) := by decide +kernel
theorem c49_37 : qcd 49 37 = some (.getfield 55, 3) := by decide +kernel
theorem c49_40 : qcd 49 40 = some (.getfield 251, 3) := by decide +kernel
theorem c49_43 : qcd 49 43 = some (.iload_n 1, 1) := by decide +kernel
theorem c49_44 : qcd 49 44 = some (.iaload, 1) := by decide +kernel
theorem c49_45 : qcd 49 45 = some (.iconst 1, 1) := by decide +kernel
theorem c49_46 : qcd 49 46 = some (.isub, 1) := by decide +kernel
theorem c49_47 : qcd 49 47 = some (.if_icmp .ne 7, 3) := by decide +kernel
theorem c49_50 : qcd 49 50 = some (.iconst 1, 1) := by decide +kernel
theorem c49_51 : qcd 49 51 = some (.goto 4, 3) := by decide +kernel
theorem c49_54 : qcd 49 54 = some (.iconst 0, 1) := by decide +kernel
theorem c49_55 : qcd 49 55 = some (.istore 4, 2) := by decide +kernel
theorem c49_57 : qcd 49 57 = some (.iload 4, 2) := by decide +kernel
theorem c49_59 : qcd 49 59 = some (.ifCond .eq 27, 3) := by decide +kernel
theorem c49_62 : qcd 49 62 = some (.aload_n 0, 1) := by decide +kernel
theorem c49_63 : qcd 49 63 = some (.getfield 55, 3) := by decide +kernel
theorem c49_66 : qcd 49 66 = some (.getfield 245, 3) := by decide +kernel
theorem c49_69 : qcd 49 69 = some (.iload_n 3, 1) := by decide +kernel
theorem c49_70 : qcd 49 70 = some (.iaload, 1) := by decide +kernel
theorem c49_71 : qcd 49 71 = some (.ifCond .eq 15, 3) := by decide +kernel
theorem c49_74 : qcd 49 74 = some (.aload_n 0, 1) := by decide +kernel
theorem c49_75 : qcd 49 75 = some (.iload_n 3, 1) := by decide +kernel
theorem c49_76 : qcd 49 76 = some (.iload_n 1, 1) := by decide +kernel
theorem c49_77 : qcd 49 77 = some (.aload_n 2, 1) := by decide +kernel
theorem c49_78 : qcd 49 78 = some (.invokevirtual 359, 3) := by decide +kernel
theorem c49_81 : qcd 49 81 = some (.ifCond .ne 5, 3) := by decide +kernel
theorem c49_84 : qcd 49 84 = some (.iload_n 3, 1) := by decide +kernel
theorem c49_85 : qcd 49 85 = some (.ireturn, 1) := by decide +kernel
theorem c49_86 : qcd 49 86 = some (.iinc 3 1, 3) := by decide +kernel
theorem c49_89 : qcd 49 89 = some (.goto (-67), 3) := by decide +kernel
theorem c49_92 : qcd 49 92 = some (.iconst (-1), 1) := by decide +kernel
theorem c49_93 : qcd 49 93 = some (.ireturn, 1) := by decide +kernel
theorem c50_0 : qcd 50 0 = some (.aload_n 0, 1) := by decide +kernel
theorem c50_1 : qcd 50 1 = some (.getfield 10, 3) := by decide +kernel
theorem c50_4 : qcd 50 4 = some (.iload_n 1, 1) := by decide +kernel
theorem c50_5 : qcd 50 5 = some (.invokevirtual 140, 3) := by decide +kernel
theorem c50_8 : qcd 50 8 = some (.ifCond .ne 7, 3) := by decide +kernel
theorem c50_11 : qcd 50 11 = some (.ldc2_w 215, 3) := by decide +kernel
theorem c50_14 : qcd 50 14 = some (.lreturn, 1) := by decide +kernel
theorem c50_15 : qcd 50 15 = some (.aload_n 0, 1) := by decide +kernel
theorem c50_16 : qcd 50 16 = some (.getfield 34, 3) := by decide +kernel
theorem c50_19 : qcd 50 19 = some (.aload_n 0, 1) := by decide +kernel
theorem c50_20 : qcd 50 20 = some (.getfield 10, 3) := by decide +kernel
theorem c50_23 : qcd 50 23 = some (.aload_n 0, 1) := by decide +kernel
theorem c50_24 : qcd 50 24 = some (.getfield 19, 3) := by decide +kernel
theorem c50_27 : qcd 50 27 = some (.invokevirtual 217, 3) := by decide +kernel
theorem c50_30 : qcd 50 30 = some (.aload_n 0, 1) := by decide +kernel
theorem c50_31 : qcd 50 31 = some (.getfield 34, 3) := by decide +kernel
theorem c50_34 : qcd 50 34 = some (.getfield 221, 3) := by decide +kernel
theorem c50_37 : qcd 50 37 = some (.iload_n 1, 1) := by decide +kernel
theorem c50_38 : qcd 50 38 = some (.laload, 1) := by decide +kernel
theorem c50_39 : qcd 50 39 = some (.lreturn, 1) := by decide +kernel
theorem c51_0 : qcd 51 0 = some (.aload_n 0, 1) := by decide +kernel
theorem c51_1 : qcd 51 1 = some (.getfield 19, 3) := by decide +kernel
theorem c51_4 : qcd 51 4 = some (.getfield 97, 3) := by decide +kernel
theorem c51_7 : qcd 51 7 = some (.istore_n 1, 1) := by decide +kernel
theorem c51_8 : qcd 51 8 = some (.iload_n 1, 1) := by decide +kernel
theorem c51_9 : qcd 51 9 = some (.iconst 0, 1) := by decide +kernel
theorem c51_10 : qcd 51 10 = some (.sipush 498, 3) := by decide +kernel
theorem c51_13 : qcd 51 13 = some (.invokestatic 108, 3) := by decide +kernel
theorem c51_16 : qcd 51 16 = some (.ifCond .ne 5, 3) := by decide +kernel
theorem c51_19 : qcd 51 19 = some (.iconst (-1), 1) := by decide +kernel
theorem c51_20 : qcd 51 20 = some (.ireturn, 1) := by decide +kernel
theorem c51_21 : qcd 51 21 = some (.new 16, 3) := by decide +kernel
theorem c51_24 : qcd 51 24 = some (.dup, 1) := by decide +kernel
theorem c51_25 : qcd 51 25 = some (.invokespecial 18, 3) := by decide +kernel
theorem c51_28 : qcd 51 28 = some (.astore_n 2, 1) := by decide +kernel
theorem c51_29 : qcd 51 29 = some (.aload_n 2, 1) := by decide +kernel
theorem c51_30 : qcd 51 30 = some (.aload_n 0, 1) := by decide +kernel
theorem c51_31 : qcd 51 31 = some (.getfield 19, 3) := by decide +kernel
theorem c51_34 : qcd 51 34 = some (.invokevirtual 185, 3) := by decide +kernel
theorem c51_37 : qcd 51 37 = some (.aload_n 0, 1) := by decide +kernel
theorem c51_38 : qcd 51 38 = some (.getfield 23, 3) := by decide +kernel
theorem c51_41 : qcd 51 41 = some (.iload_n 1, 1) := by decide +kernel
theorem c51_42 : qcd 51 42 = some (.aload_n 2, 1) := by decide +kernel
theorem c51_43 : qcd 51 43 = some (.aastore, 1) := by decide +kernel
theorem c51_44 : qcd 51 44 = some (.aload_n 0, 1) := by decide +kernel
theorem c51_45 : qcd 51 45 = some (.getfield 27, 3) := by decide +kernel
theorem c51_48 : qcd 51 48 = some (.iload_n 1, 1) := by decide +kernel
theorem c51_49 : qcd 51 49 = some (.aload_n 0, 1) := by decide +kernel
theorem c51_50 : qcd 51 50 = some (.getfield 41, 3) := by decide +kernel
theorem c51_53 : qcd 51 53 = some (.aload_n 0, 1) := by decide +kernel
theorem c51_54 : qcd 51 54 = some (.getfield 10, 3) := by decide +kernel
theorem c51_57 : qcd 51 57 = some (.aload_n 2, 1) := by decide +kernel
theorem c51_58 : qcd 51 58 = some (.invokevirtual 189, 3) := by decide +kernel
theorem c51_61 : qcd 51 61 = some (.iastore, 1) := by decide +kernel
theorem c51_62 : qcd 51 62 = some (.aload_n 0, 1) := by decide +kernel
theorem c51_63 : qcd 51 63 = some (.getfield 48, 3) := by decide +kernel
theorem c51_66 : qcd 51 66 = some (.aload_n 2, 1) := by decide +kernel
theorem c51_67 : qcd 51 67 = some (.invokevirtual 193, 3) := by decide +kernel
theorem c51_70 : qcd 51 70 = some (.aload_n 0, 1) := by decide +kernel
theorem c51_71 : qcd 51 71 = some (.getfield 48, 3) := by decide +kernel
theorem c51_74 : qcd 51 74 = some (.aload_n 0, 1) := by decide +kernel
theorem c51_75 : qcd 51 75 = some (.getfield 10, 3) := by decide +kernel
theorem c51_78 : qcd 51 78 = some (.invokevirtual 196, 3) := by decide +kernel
theorem c51_81 : qcd 51 81 = some (.aload_n 0, 1) := by decide +kernel
theorem c51_82 : qcd 51 82 = some (.getfield 62, 3) := by decide +kernel
theorem c51_85 : qcd 51 85 = some (.aload_n 0, 1) := by decide +kernel
theorem c51_86 : qcd 51 86 = some (.getfield 10, 3) := by decide +kernel
theorem c51_89 : qcd 51 89 = some (.aload_n 2, 1) := by decide +kernel
theorem c51_90 : qcd 51 90 = some (.aload_n 0, 1) := by decide +kernel
theorem c51_91 : qcd 51 91 = some (.getfield 48, 3) := by decide +kernel
theorem c51_94 : qcd 51 94 = some (.getfield 200, 3) := by decide +kernel
theorem c51_97 : qcd 51 97 = some (.invokevirtual 201, 3) := by decide +kernel
theorem c51_100 : qcd 51 100 = some (.aload_n 0, 1) := by decide +kernel
theorem c51_101 : qcd 51 101 = some (.getfield 19, 3) := by decide +kernel
theorem c51_104 : qcd 51 104 = some (.aload_n 0, 1) := by decide +kernel
theorem c51_105 : qcd 51 105 = some (.getfield 48, 3) := by decide +kernel
theorem c51_108 : qcd 51 108 = some (.getfield 205, 3) := by decide +kernel
theorem c51_111 : qcd 51 111 = some (.invokevirtual 185, 3) := by decide +kernel
theorem c51_114 : qcd 51 114 = some (.aload_n 0, 1) := by decide +kernel
theorem c51_115 : qcd 51 115 = some (.getfield 55, 3) := by decide +kernel
theorem c51_118 : qcd 51 118 = some (.aload_n 0, 1) := by decide +kernel
theorem c51_119 : qcd 51 119 = some (.getfield 48, 3) := by decide +kernel
theorem c51_122 : qcd 51 122 = some (.iload_n 1, 1) := by decide +kernel
theorem c51_123 : qcd 51 123 = some (.invokevirtual 208, 3) := by decide +kernel
theorem c51_126 : qcd 51 126 = some (.aload_n 0, 1) := by decide +kernel
theorem c51_127 : qcd 51 127 = some (.getfield 48, 3) := by decide +kernel
theorem c51_130 : qcd 51 130 = some (.getfield 212, 3) := by decide +kernel
theorem c51_133 : qcd 51 133 = some (.ireturn, 1) := by decide +kernel
theorem c52_0 : qcd 52 0 = some (.iload_n 1, 1) := by decide +kernel
theorem c52_1 : qcd 52 1 = some (.ifCond .lt 25, 3) := by decide +kernel
theorem c52_4 : qcd 52 4 = some (.iload_n 1, 1) := by decide +kernel
theorem c52_5 : qcd 52 5 = some (.aload_n 0, 1) := by decide +kernel
theorem c52_6 : qcd 52 6 = some (.getfield 19, 3) := by decide +kernel
theorem c52_9 : qcd 52 9 = some (.getfield 97, 3) := by decide +kernel
theorem c52_12 : qcd 52 12 = some (.if_icmp .ge 14, 3) := by decide +kernel
theorem c52_15 : qcd 52 15 = some (.iload_n 1, 1) := by decide +kernel
theorem c52_16 : qcd 52 16 = some (.sipush 499, 3) := by decide +kernel
theorem c52_19 : qcd 52 19 = some (.if_icmp .ge 7, 3) := by decide +kernel
theorem c52_22 : qcd 52 22 = some (.iconst 1, 1) := by decide +kernel
theorem c52_23 : qcd 52 23 = some (.goto 4, 3) := by decide +kernel
theorem c52_26 : qcd 52 26 = some (.iconst 0, 1) := by decide +kernel
theorem c52_27 : qcd 52 27 = some (.ireturn, 1) := by decide +kernel
theorem c53_0 : qcd 53 0 = some (.aload_n 0, 1) := by decide +kernel
theorem c53_1 : qcd 53 1 = some (.iload_n 2, 1) := by decide +kernel
theorem c53_2 : qcd 53 2 = some (.invokevirtual 282, 3) := by decide +kernel
theorem c53_5 : qcd 53 5 = some (.ifCond .eq 13, 3) := by decide +kernel
theorem c53_8 : qcd 53 8 = some (.iload_n 3, 1) := by decide +kernel
theorem c53_9 : qcd 53 9 = some (.iconst 1, 1) := by decide +kernel
theorem c53_10 : qcd 53 10 = some (.bipush 30, 2) := by decide +kernel
theorem c53_12 : qcd 53 12 = some (.invokestatic 108, 3) := by decide +kernel
theorem c53_15 : qcd 53 15 = some (.ifCond .ne 5, 3) := by decide +kernel
theorem c53_18 : qcd 53 18 = some (.iconst (-1), 1) := by decide +kernel
theorem c53_19 : qcd 53 19 = some (.ireturn, 1) := by decide +kernel
theorem c53_20 : qcd 53 20 = some (.aload_n 0, 1) := by decide +kernel
theorem c53_21 : qcd 53 21 = some (.iload_n 1, 1) := by decide +kernel
theorem c53_22 : qcd 53 22 = some (.invokevirtual 285, 3) := by decide +kernel
theorem c53_25 : qcd 53 25 = some (.astore 4, 2) := by decide +kernel
theorem c53_27 : qcd 53 27 = some (.aload 4, 2) := by decide +kernel
theorem c53_29 : qcd 53 29 = some (.ifnonnull 5, 3) := by decide +kernel
theorem c53_32 : qcd 53 32 = some (.iconst (-1), 1) := by decide +kernel
theorem c53_33 : qcd 53 33 = some (.ireturn, 1) := by decide +kernel
theorem c53_34 : qcd 53 34 = some (.aload_n 0, 1) := by decide +kernel
theorem c53_35 : qcd 53 35 = some (.aload 4, 2) := by decide +kernel
theorem c53_37 : qcd 53 37 = some (.iload_n 2, 1) := by decide +kernel
theorem c53_38 : qcd 53 38 = some (.iload_n 3, 1) := by decide +kernel
theorem c53_39 : qcd 53 39 = some (.invokevirtual 289, 3) := by decide +kernel
theorem c53_42 : qcd 53 42 = some (.ifCond .eq 7, 3) := by decide +kernel
theorem c53_45 : qcd 53 45 = some (.iconst 1, 1) := by decide +kernel
theorem c53_46 : qcd 53 46 = some (.goto 4, 3) := by decide +kernel
theorem c53_49 : qcd 53 49 = some (.iconst 0, 1) := by decide +kernel
theorem c53_50 : qcd 53 50 = some (.ireturn, 1) := by decide +kernel
theorem c54_0 : qcd 54 0 = some (.aload_n 0, 1) := by decide +kernel
theorem c54_1 : qcd 54 1 = some (.getfield 48, 3) := by decide +kernel
theorem c54_4 : qcd 54 4 = some (.aload_n 1, 1) := by decide +kernel
theorem c54_5 : qcd 54 5 = some (.invokevirtual 193, 3) := by decide +kernel
theorem c54_8 : qcd 54 8 = some (.aload_n 0, 1) := by decide +kernel
theorem c54_9 : qcd 54 9 = some (.getfield 48, 3) := by decide +kernel
theorem c54_12 : qcd 54 12 = some (.getfield 205, 3) := by decide +kernel
theorem c54_15 : qcd 54 15 = some (.dup, 1) := by decide +kernel
theorem c54_16 : qcd 54 16 = some (.getfield 161, 3) := by decide +kernel
theorem c54_19 : qcd 54 19 = some (.iload_n 2, 1) := by decide +kernel
theorem c54_20 : qcd 54 20 = some (.ior, 1) := by decide +kernel
theorem c54_21 : qcd 54 21 = some (.putfield 161, 3) := by decide +kernel
theorem c54_24 : qcd 54 24 = some (.iconst 0, 1) := by decide +kernel
theorem c54_25 : qcd 54 25 = some (.istore 4, 2) := by decide +kernel
theorem c54_27 : qcd 54 27 = some (.iload 4, 2) := by decide +kernel
theorem c54_29 : qcd 54 29 = some (.iload_n 3, 1) := by decide +kernel
theorem c54_30 : qcd 54 30 = some (.if_icmp .ge 32, 3) := by decide +kernel
theorem c54_33 : qcd 54 33 = some (.aload_n 0, 1) := by decide +kernel
theorem c54_34 : qcd 54 34 = some (.getfield 48, 3) := by decide +kernel
theorem c54_37 : qcd 54 37 = some (.aload_n 0, 1) := by decide +kernel
theorem c54_38 : qcd 54 38 = some (.getfield 10, 3) := by decide +kernel
theorem c54_41 : qcd 54 41 = some (.invokevirtual 196, 3) := by decide +kernel
theorem c54_44 : qcd 54 44 = some (.aload_n 0, 1) := by decide +kernel
theorem c54_45 : qcd 54 45 = some (.getfield 48, 3) := by decide +kernel
theorem c54_48 : qcd 54 48 = some (.getfield 212, 3) := by decide +kernel
theorem c54_51 : qcd 54 51 = some (.ifCond .le 5, 3) := by decide +kernel
theorem c54_54 : qcd 54 54 = some (.iconst 0, 1) := by decide +kernel
theorem c54_55 : qcd 54 55 = some (.ireturn, 1) := by decide +kernel
theorem c54_56 : qcd 54 56 = some (.iinc 4 1, 3) := by decide +kernel
theorem c54_59 : qcd 54 59 = some (.goto (-32), 3) := by decide +kernel
theorem c54_62 : qcd 54 62 = some (.iconst 1, 1) := by decide +kernel
theorem c54_63 : qcd 54 63 = some (.ireturn, 1) := by decide +kernel
theorem c55_0 : qcd 55 0 = some (.aload_n 0, 1) := by decide +kernel
theorem c55_1 : qcd 55 1 = some (.invokespecial 1, 3) := by decide +kernel
theorem c55_4 : qcd 55 4 = some (.aload_n 0, 1) := by decide +kernel
theorem c55_5 : qcd 55 5 = some (.new 7, 3) := by decide +kernel
theorem c55_8 : qcd 55 8 = some (.dup, 1) := by decide +kernel
theorem c55_9 : qcd 55 9 = some (.invokespecial 9, 3) := by decide +kernel
theorem c55_12 : qcd 55 12 = some (.putfield 10, 3) := by decide +kernel
theorem c55_15 : qcd 55 15 = some (.aload_n 0, 1) := by decide +kernel
theorem c55_16 : qcd 55 16 = some (.new 16, 3) := by decide +kernel
theorem c55_19 : qcd 55 19 = some (.dup, 1) := by decide +kernel
theorem c55_20 : qcd 55 20 = some (.invokespecial 18, 3) := by decide +kernel
theorem c55_23 : qcd 55 23 = some (.putfield 19, 3) := by decide +kernel
theorem c55_26 : qcd 55 26 = some (.aload_n 0, 1) := by decide +kernel
theorem c55_27 : qcd 55 27 = some (.sipush 499, 3) := by decide +kernel
theorem c55_30 : qcd 55 30 = some (.anewarray 16, 3) := by decide +kernel
theorem c55_33 : qcd 55 33 = some (.putfield 23, 3) := by decide +kernel
theorem c55_36 : qcd 55 36 = some (.aload_n 0, 1) := by decide +kernel
theorem c55_37 : qcd 55 37 = some (.sipush 499, 3) := by decide +kernel
theorem c55_40 : qcd 55 40 = some (.newarray .int, 2) := by decide +kernel
theorem c55_42 : qcd 55 42 = some (.putfield 27, 3) := by decide +kernel
theorem c55_45 : qcd 55 45 = some (.aload_n 0, 1) := by decide +kernel
theorem c55_46 : qcd 55 46 = some (.new 31, 3) := by decide +kernel
theorem c55_49 : qcd 55 49 = some (.dup, 1) := by decide +kernel
theorem c55_50 : qcd 55 50 = some (.invokespecial 33, 3) := by decide +kernel
theorem c55_53 : qcd 55 53 = some (.putfield 34, 3) := by decide +kernel
theorem c55_56 : qcd 55 56 = some (.aload_n 0, 1) := by decide +kernel
theorem c55_57 : qcd 55 57 = some (.new 38, 3) := by decide +kernel
theorem c55_60 : qcd 55 60 = some (.dup, 1) := by decide +kernel
theorem c55_61 : qcd 55 61 = some (.invokespecial 40, 3) := by decide +kernel
theorem c55_64 : qcd 55 64 = some (.putfield 41, 3) := by decide +kernel
theorem c55_67 : qcd 55 67 = some (.aload_n 0, 1) := by decide +kernel
theorem c55_68 : qcd 55 68 = some (.new 45, 3) := by decide +kernel
theorem c55_71 : qcd 55 71 = some (.dup, 1) := by decide +kernel
theorem c55_72 : qcd 55 72 = some (.invokespecial 47, 3) := by decide +kernel
theorem c55_75 : qcd 55 75 = some (.putfield 48, 3) := by decide +kernel
theorem c55_78 : qcd 55 78 = some (.aload_n 0, 1) := by decide +kernel
theorem c55_79 : qcd 55 79 = some (.new 52, 3) := by decide +kernel
theorem c55_82 : qcd 55 82 = some (.dup, 1) := by decide +kernel
theorem c55_83 : qcd 55 83 = some (.invokespecial 54, 3) := by decide +kernel
theorem c55_86 : qcd 55 86 = some (.putfield 55, 3) := by decide +kernel
theorem c55_89 : qcd 55 89 = some (.aload_n 0, 1) := by decide +kernel
theorem c55_90 : qcd 55 90 = some (.new 59, 3) := by decide +kernel
theorem c55_93 : qcd 55 93 = some (.dup, 1) := by decide +kernel
theorem c55_94 : qcd 55 94 = some (.invokespecial 61, 3) := by decide +kernel
theorem c55_97 : qcd 55 97 = some (.putfield 62, 3) := by decide +kernel
theorem c55_100 : qcd 55 100 = some (.aload_n 0, 1) := by decide +kernel
theorem c55_101 : qcd 55 101 = some (.new 66, 3) := by decide +kernel
theorem c55_104 : qcd 55 104 = some (.dup, 1) := by decide +kernel
theorem c55_105 : qcd 55 105 = some (.invokespecial 68, 3) := by decide +kernel
theorem c55_108 : qcd 55 108 = some (.putfield 69, 3) := by decide +kernel
theorem c55_111 : qcd 55 111 = some (.aload_n 0, 1) := by decide +kernel
theorem c55_112 : qcd 55 112 = some (.new 73, 3) := by decide +kernel
theorem c55_115 : qcd 55 115 = some (.dup, 1) := by decide +kernel
theorem c55_116 : qcd 55 116 = some (.invokespecial 75, 3) := by decide +kernel
theorem c55_119 : qcd 55 119 = some (.putfield 76, 3) := by decide +kernel
theorem c55_122 : qcd 55 122 = some (.aload_n 0, 1) := by decide +kernel
theorem c55_123 : qcd 55 123 = some (.new 80, 3) := by decide +kernel
theorem c55_126 : qcd 55 126 = some (.dup, 1) := by decide +kernel
theorem c55_127 : qcd 55 127 = some (.invokespecial 82, 3) := by decide +kernel
theorem c55_130 : qcd 55 130 = some (.putfield 83, 3) := by decide +kernel
theorem c55_133 : qcd 55 133 = some (.aload_n 0, 1) := by decide +kernel
theorem c55_134 : qcd 55 134 = some (.bipush 8, 2) := by decide +kernel
theorem c55_136 : qcd 55 136 = some (.newarray .int, 2) := by decide +kernel
theorem c55_138 : qcd 55 138 = some (.putfield 87, 3) := by decide +kernel
theorem c55_141 : qcd 55 141 = some (.aload_n 0, 1) := by decide +kernel
theorem c55_142 : qcd 55 142 = some (.new 90, 3) := by decide +kernel
theorem c55_145 : qcd 55 145 = some (.dup, 1) := by decide +kernel
theorem c55_146 : qcd 55 146 = some (.invokespecial 92, 3) := by decide +kernel
theorem c55_149 : qcd 55 149 = some (.putfield 93, 3) := by decide +kernel
theorem c55_152 : qcd 55 152 = some (.return_, 1) := by decide +kernel
theorem c56_0 : qcd 56 0 = some (.iload_n 0, 1) := by decide +kernel
theorem c56_1 : qcd 56 1 = some (.iconst 0, 1) := by decide +kernel
theorem c56_2 : qcd 56 2 = some (.iconst 3, 1) := by decide +kernel
theorem c56_3 : qcd 56 3 = some (.invokestatic 108, 3) := by decide +kernel
theorem c56_6 : qcd 56 6 = some (.ireturn, 1) := by decide +kernel
theorem c57_0 : qcd 57 0 = some (.iload_n 1, 1) := by decide +kernel
theorem c57_1 : qcd 57 1 = some (.ifCond .lt 19, 3) := by decide +kernel
theorem c57_4 : qcd 57 4 = some (.iload_n 1, 1) := by decide +kernel
theorem c57_5 : qcd 57 5 = some (.aload_n 0, 1) := by decide +kernel
theorem c57_6 : qcd 57 6 = some (.getfield 10, 3) := by decide +kernel
theorem c57_9 : qcd 57 9 = some (.getfield 101, 3) := by decide +kernel
theorem c57_12 : qcd 57 12 = some (.ishr, 1) := by decide +kernel
theorem c57_13 : qcd 57 13 = some (.ifCond .ne 7, 3) := by decide +kernel
theorem c57_16 : qcd 57 16 = some (.iconst 1, 1) := by decide +kernel
theorem c57_17 : qcd 57 17 = some (.goto 4, 3) := by decide +kernel
theorem c57_20 : qcd 57 20 = some (.iconst 0, 1) := by decide +kernel
theorem c57_21 : qcd 57 21 = some (.ireturn, 1) := by decide +kernel
theorem c58_0 : qcd 58 0 = some (.iload_n 1, 1) := by decide +kernel
theorem c58_1 : qcd 58 1 = some (.iconst 3, 1) := by decide +kernel
theorem c58_2 : qcd 58 2 = some (.idiv, 1) := by decide +kernel
theorem c58_3 : qcd 58 3 = some (.istore_n 2, 1) := by decide +kernel
theorem c58_4 : qcd 58 4 = some (.aload_n 0, 1) := by decide +kernel
theorem c58_5 : qcd 58 5 = some (.getfield 10, 3) := by decide +kernel
theorem c58_8 : qcd 58 8 = some (.iload_n 2, 1) := by decide +kernel
theorem c58_9 : qcd 58 9 = some (.invokevirtual 140, 3) := by decide +kernel
theorem c58_12 : qcd 58 12 = some (.ifCond .ne 5, 3) := by decide +kernel
theorem c58_15 : qcd 58 15 = some (.iconst 0, 1) := by decide +kernel
theorem c58_16 : qcd 58 16 = some (.ireturn, 1) := by decide +kernel
theorem c58_17 : qcd 58 17 = some (.aload_n 0, 1) := by decide +kernel
theorem c58_18 : qcd 58 18 = some (.getfield 83, 3) := by decide +kernel
theorem c58_21 : qcd 58 21 = some (.iload_n 1, 1) := by decide +kernel
theorem c58_22 : qcd 58 22 = some (.invokevirtual 356, 3) := by decide +kernel
theorem c58_25 : qcd 58 25 = some (.istore_n 3, 1) := by decide +kernel
theorem c58_26 : qcd 58 26 = some (.iload_n 1, 1) := by decide +kernel
theorem c58_27 : qcd 58 27 = some (.iconst 3, 1) := by decide +kernel
theorem c58_28 : qcd 58 28 = some (.irem, 1) := by decide +kernel
theorem c58_29 : qcd 58 29 = some (.lookupswitch 57 #[(0, 27), (1, 38)], 27) := by decide +kernel
theorem c58_56 : qcd 58 56 = some (.iload_n 3, 1) := by decide +kernel
theorem c58_57 : qcd 58 57 = some (.iload_n 2, 1) := by decide +kernel
theorem c58_58 : qcd 58 58 = some (.if_icmp .ne 7, 3) := by decide +kernel
theorem c58_61 : qcd 58 61 = some (.iconst 1, 1) := by decide +kernel
theorem c58_62 : qcd 58 62 = some (.goto 4, 3) := by decide +kernel
theorem c58_65 : qcd 58 65 = some (.iconst 0, 1) := by decide +kernel
theorem c58_66 : qcd 58 66 = some (.ireturn, 1) := by decide +kernel
theorem c58_67 : qcd 58 67 = some (.iload_n 3, 1) := by decide +kernel
theorem c58_68 : qcd 58 68 = some (.aload_n 0, 1) := by decide +kernel
theorem c58_69 : qcd 58 69 = some (.getfield 19, 3) := by decide +kernel
theorem c58_72 : qcd 58 72 = some (.getfield 149, 3) := by decide +kernel
theorem c58_75 : qcd 58 75 = some (.iload_n 2, 1) := by decide +kernel
theorem c58_76 : qcd 58 76 = some (.iaload, 1) := by decide +kernel
theorem c58_77 : qcd 58 77 = some (.if_icmp .ne 7, 3) := by decide +kernel
theorem c58_80 : qcd 58 80 = some (.iconst 1, 1) := by decide +kernel
theorem c58_81 : qcd 58 81 = some (.goto 4, 3) := by decide +kernel
theorem c58_84 : qcd 58 84 = some (.iconst 0, 1) := by decide +kernel
theorem c58_85 : qcd 58 85 = some (.ireturn, 1) := by decide +kernel
theorem c58_86 : qcd 58 86 = some (.iload_n 3, 1) := by decide +kernel
theorem c58_87 : qcd 58 87 = some (.aload_n 0, 1) := by decide +kernel
theorem c58_88 : qcd 58 88 = some (.getfield 19, 3) := by decide +kernel
theorem c58_91 : qcd 58 91 = some (.getfield 225, 3) := by decide +kernel
theorem c58_94 : qcd 58 94 = some (.iload_n 2, 1) := by decide +kernel
theorem c58_95 : qcd 58 95 = some (.iaload, 1) := by decide +kernel
theorem c58_96 : qcd 58 96 = some (.if_icmp .ne 7, 3) := by decide +kernel
theorem c58_99 : qcd 58 99 = some (.iconst 1, 1) := by decide +kernel
theorem c58_100 : qcd 58 100 = some (.goto 4, 3) := by decide +kernel
theorem c58_103 : qcd 58 103 = some (.iconst 0, 1) := by decide +kernel
theorem c58_104 : qcd 58 104 = some (.ireturn, 1) := by decide +kernel
theorem c59_0 : qcd 59 0 = some (.aload_n 0, 1) := by decide +kernel
theorem c59_1 : qcd 59 1 = some (.iload_n 1, 1) := by decide +kernel
theorem c59_2 : qcd 59 2 = some (.invokevirtual 282, 3) := by decide +kernel
theorem c59_5 : qcd 59 5 = some (.ifCond .eq 13, 3) := by decide +kernel
theorem c59_8 : qcd 59 8 = some (.iload_n 2, 1) := by decide +kernel
theorem c59_9 : qcd 59 9 = some (.iconst 1, 1) := by decide +kernel
theorem c59_10 : qcd 59 10 = some (.bipush 30, 2) := by decide +kernel
theorem c59_12 : qcd 59 12 = some (.invokestatic 108, 3) := by decide +kernel
theorem c59_15 : qcd 59 15 = some (.ifCond .ne 5, 3) := by decide +kernel
theorem c59_18 : qcd 59 18 = some (.iconst (-1), 1) := by decide +kernel
theorem c59_19 : qcd 59 19 = some (.ireturn, 1) := by decide +kernel
theorem c59_20 : qcd 59 20 = some (.aload_n 0, 1) := by decide +kernel
theorem c59_21 : qcd 59 21 = some (.getfield 19, 3) := by decide +kernel
theorem c59_24 : qcd 59 24 = some (.getfield 97, 3) := by decide +kernel
theorem c59_27 : qcd 59 27 = some (.istore_n 3, 1) := by decide +kernel
theorem c59_28 : qcd 59 28 = some (.iload_n 3, 1) := by decide +kernel
theorem c59_29 : qcd 59 29 = some (.ifCond .lt 34, 3) := by decide +kernel
theorem c59_32 : qcd 59 32 = some (.aload_n 0, 1) := by decide +kernel
theorem c59_33 : qcd 59 33 = some (.iload_n 3, 1) := by decide +kernel
theorem c59_34 : qcd 59 34 = some (.invokevirtual 285, 3) := by decide +kernel
theorem c59_37 : qcd 59 37 = some (.astore 4, 2) := by decide +kernel
theorem c59_39 : qcd 59 39 = some (.aload 4, 2) := by decide +kernel
theorem c59_41 : qcd 59 41 = some (.ifnull 16, 3) := by decide +kernel
theorem c59_44 : qcd 59 44 = some (.aload_n 0, 1) := by decide +kernel
theorem c59_45 : qcd 59 45 = some (.aload 4, 2) := by decide +kernel
theorem c59_47 : qcd 59 47 = some (.iload_n 1, 1) := by decide +kernel
theorem c59_48 : qcd 59 48 = some (.iload_n 2, 1) := by decide +kernel
theorem c59_49 : qcd 59 49 = some (.invokevirtual 289, 3) := by decide +kernel
theorem c59_52 : qcd 59 52 = some (.ifCond .eq 5, 3) := by decide +kernel
theorem c59_55 : qcd 59 55 = some (.iload_n 3, 1) := by decide +kernel
theorem c59_56 : qcd 59 56 = some (.ireturn, 1) := by decide +kernel
theorem c59_57 : qcd 59 57 = some (.iinc 3 (-1), 3) := by decide +kernel
theorem c59_60 : qcd 59 60 = some (.goto (-32), 3) := by decide +kernel
theorem c59_63 : qcd 59 63 = some (.iconst (-1), 1) := by decide +kernel
theorem c59_64 : qcd 59 64 = some (.ireturn, 1) := by decide +kernel
theorem c60_0 : qcd 60 0 = some (.aload_n 0, 1) := by decide +kernel
theorem c60_1 : qcd 60 1 = some (.iload_n 1, 1) := by decide +kernel
theorem c60_2 : qcd 60 2 = some (.invokevirtual 285, 3) := by decide +kernel
theorem c60_5 : qcd 60 5 = some (.astore_n 3, 1) := by decide +kernel
theorem c60_6 : qcd 60 6 = some (.aload_n 3, 1) := by decide +kernel
theorem c60_7 : qcd 60 7 = some (.ifnull 13, 3) := by decide +kernel
theorem c60_10 : qcd 60 10 = some (.iload_n 2, 1) := by decide +kernel
theorem c60_11 : qcd 60 11 = some (.iconst 1, 1) := by decide +kernel
theorem c60_12 : qcd 60 12 = some (.bipush 30, 2) := by decide +kernel
theorem c60_14 : qcd 60 14 = some (.invokestatic 108, 3) := by decide +kernel
theorem c60_17 : qcd 60 17 = some (.ifCond .ne 5, 3) := by decide +kernel
theorem c60_20 : qcd 60 20 = some (.iconst (-1), 1) := by decide +kernel
theorem c60_21 : qcd 60 21 = some (.ireturn, 1) := by decide +kernel
theorem c60_22 : qcd 60 22 = some (.aload_n 0, 1) := by decide +kernel
theorem c60_23 : qcd 60 23 = some (.aload_n 3, 1) := by decide +kernel
theorem c60_24 : qcd 60 24 = some (.iload_n 2, 1) := by decide +kernel
theorem c60_25 : qcd 60 25 = some (.invokevirtual 293, 3) := by decide +kernel
theorem c60_28 : qcd 60 28 = some (.ireturn, 1) := by decide +kernel
theorem c61_0 : qcd 61 0 = some (.bipush (-2), 2) := by decide +kernel
theorem c61_2 : qcd 61 2 = some (.istore_n 3, 1) := by decide +kernel
theorem c61_3 : qcd 61 3 = some (.iconst 0, 1) := by decide +kernel
theorem c61_4 : qcd 61 4 = some (.istore 4, 2) := by decide +kernel
theorem c61_6 : qcd 61 6 = some (.iconst 0, 1) := by decide +kernel
theorem c61_7 : qcd 61 7 = some (.istore 5, 2) := by decide +kernel
theorem c61_9 : qcd 61 9 = some (.iconst 0, 1) := by decide +kernel
theorem c61_10 : qcd 61 10 = some (.istore 6, 2) := by decide +kernel
theorem c61_12 : qcd 61 12 = some (.iload 6, 2) := by decide +kernel
theorem c61_14 : qcd 61 14 = some (.iconst 1, 1) := by decide +kernel
theorem c61_15 : qcd 61 15 = some (.aload_n 0, 1) := by decide +kernel
theorem c61_16 : qcd 61 16 = some (.getfield 10, 3) := by decide +kernel
theorem c61_19 : qcd 61 19 = some (.getfield 101, 3) := by decide +kernel
theorem c61_22 : qcd 61 22 = some (.ishl, 1) := by decide +kernel
theorem c61_23 : qcd 61 23 = some (.if_icmp .ge 92, 3) := by decide +kernel
theorem c61_26 : qcd 61 26 = some (.aload_n 1, 1) := by decide +kernel
theorem c61_27 : qcd 61 27 = some (.iload 6, 2) := by decide +kernel
theorem c61_29 : qcd 61 29 = some (.aload_n 1, 1) := by decide +kernel
theorem c61_30 : qcd 61 30 = some (.getfield 161, 3) := by decide +kernel
theorem c61_33 : qcd 61 33 = some (.iconst (-1), 1) := by decide +kernel
theorem c61_34 : qcd 61 34 = some (.ixor, 1) := by decide +kernel
theorem c61_35 : qcd 61 35 = some (.iand, 1) := by decide +kernel
theorem c61_36 : qcd 61 36 = some (.invokevirtual 350, 3) := by decide +kernel
theorem c61_39 : qcd 61 39 = some (.istore 7, 2) := by decide +kernel
theorem c61_41 : qcd 61 41 = some (.iload 6, 2) := by decide +kernel
theorem c61_43 : qcd 61 43 = some (.invokestatic 367, 3) := by decide +kernel
theorem c61_46 : qcd 61 46 = some (.istore 8, 2) := by decide +kernel
theorem c61_48 : qcd 61 48 = some (.iload_n 3, 1) := by decide +kernel
theorem c61_49 : qcd 61 49 = some (.bipush (-2), 2) := by decide +kernel
theorem c61_51 : qcd 61 51 = some (.if_icmp .eq 24, 3) := by decide +kernel
theorem c61_54 : qcd 61 54 = some (.iload 7, 2) := by decide +kernel
theorem c61_56 : qcd 61 56 = some (.iload 4, 2) := by decide +kernel
theorem c61_58 : qcd 61 58 = some (.if_icmp .lt 17, 3) := by decide +kernel
theorem c61_61 : qcd 61 61 = some (.iload 7, 2) := by decide +kernel
theorem c61_63 : qcd 61 63 = some (.iload 4, 2) := by decide +kernel
theorem c61_65 : qcd 61 65 = some (.if_icmp .ne 14, 3) := by decide +kernel
theorem c61_68 : qcd 61 68 = some (.iload 8, 2) := by decide +kernel
theorem c61_70 : qcd 61 70 = some (.iload 5, 2) := by decide +kernel
theorem c61_72 : qcd 61 72 = some (.if_icmp .ge 7, 3) := by decide +kernel
theorem c61_75 : qcd 61 75 = some (.iconst 1, 1) := by decide +kernel
theorem c61_76 : qcd 61 76 = some (.goto 4, 3) := by decide +kernel
theorem c61_79 : qcd 61 79 = some (.iconst 0, 1) := by decide +kernel
theorem c61_80 : qcd 61 80 = some (.istore 9, 2) := by decide +kernel
theorem c61_82 : qcd 61 82 = some (.iload 9, 2) := by decide +kernel
theorem c61_84 : qcd 61 84 = some (.ifCond .eq 25, 3) := by decide +kernel
theorem c61_87 : qcd 61 87 = some (.aload_n 0, 1) := by decide +kernel
theorem c61_88 : qcd 61 88 = some (.aload_n 1, 1) := by decide +kernel
theorem c61_89 : qcd 61 89 = some (.iload 6, 2) := by decide +kernel
theorem c61_91 : qcd 61 91 = some (.iload_n 2, 1) := by decide +kernel
theorem c61_92 : qcd 61 92 = some (.invokevirtual 289, 3) := by decide +kernel
theorem c61_95 : qcd 61 95 = some (.ifCond .eq 14, 3) := by decide +kernel
theorem c61_98 : qcd 61 98 = some (.iload 6, 2) := by decide +kernel
theorem c61_100 : qcd 61 100 = some (.istore_n 3, 1) := by decide +kernel
theorem c61_101 : qcd 61 101 = some (.iload 7, 2) := by decide +kernel
theorem c61_103 : qcd 61 103 = some (.istore 4, 2) := by decide +kernel
theorem c61_105 : qcd 61 105 = some (.iload 8, 2) := by decide +kernel
theorem c61_107 : qcd 61 107 = some (.istore 5, 2) := by decide +kernel
theorem c61_109 : qcd 61 109 = some (.iinc 6 1, 3) := by decide +kernel
theorem c61_112 : qcd 61 112 = some (.goto (-100), 3) := by decide +kernel
theorem c61_115 : qcd 61 115 = some (.iload_n 3, 1) := by decide +kernel
theorem c61_116 : qcd 61 116 = some (.ireturn, 1) := by decide +kernel
theorem c62_0 : qcd 62 0 = some (.aload_n 0, 1) := by decide +kernel
theorem c62_1 : qcd 62 1 = some (.getfield 10, 3) := by decide +kernel
theorem c62_4 : qcd 62 4 = some (.iload_n 1, 1) := by decide +kernel
theorem c62_5 : qcd 62 5 = some (.invokevirtual 122, 3) := by decide +kernel
theorem c62_8 : qcd 62 8 = some (.ifCond .eq 14, 3) := by decide +kernel
theorem c62_11 : qcd 62 11 = some (.iload_n 2, 1) := by decide +kernel
theorem c62_12 : qcd 62 12 = some (.iconst 0, 1) := by decide +kernel
theorem c62_13 : qcd 62 13 = some (.sipush 2000, 3) := by decide +kernel
theorem c62_16 : qcd 62 16 = some (.invokestatic 108, 3) := by decide +kernel
theorem c62_19 : qcd 62 19 = some (.ifCond .ne 5, 3) := by decide +kernel
theorem c62_22 : qcd 62 22 = some (.iconst 0, 1) := by decide +kernel
theorem c62_23 : qcd 62 23 = some (.ireturn, 1) := by decide +kernel
theorem c62_24 : qcd 62 24 = some (.aload_n 0, 1) := by decide +kernel
theorem c62_25 : qcd 62 25 = some (.getfield 19, 3) := by decide +kernel
theorem c62_28 : qcd 62 28 = some (.getfield 112, 3) := by decide +kernel
theorem c62_31 : qcd 62 31 = some (.iload_n 1, 1) := by decide +kernel
theorem c62_32 : qcd 62 32 = some (.iload_n 2, 1) := by decide +kernel
theorem c62_33 : qcd 62 33 = some (.iastore, 1) := by decide +kernel
theorem c62_34 : qcd 62 34 = some (.iconst 1, 1) := by decide +kernel
theorem c62_35 : qcd 62 35 = some (.ireturn, 1) := by decide +kernel
theorem c63_0 : qcd 63 0 = some (.aload_n 0, 1) := by decide +kernel
theorem c63_1 : qcd 63 1 = some (.getfield 10, 3) := by decide +kernel
theorem c63_4 : qcd 63 4 = some (.iload_n 1, 1) := by decide +kernel
theorem c63_5 : qcd 63 5 = some (.invokevirtual 140, 3) := by decide +kernel
theorem c63_8 : qcd 63 8 = some (.ifCond .eq 16, 3) := by decide +kernel
theorem c63_11 : qcd 63 11 = some (.aload_n 0, 1) := by decide +kernel
theorem c63_12 : qcd 63 12 = some (.getfield 19, 3) := by decide +kernel
theorem c63_15 : qcd 63 15 = some (.getfield 149, 3) := by decide +kernel
theorem c63_18 : qcd 63 18 = some (.iload_n 1, 1) := by decide +kernel
theorem c63_19 : qcd 63 19 = some (.iaload, 1) := by decide +kernel
theorem c63_20 : qcd 63 20 = some (.iconst 3, 1) := by decide +kernel
theorem c63_21 : qcd 63 21 = some (.if_icmp .eq 5, 3) := by decide +kernel
theorem c63_24 : qcd 63 24 = some (.iconst 0, 1) := by decide +kernel
theorem c63_25 : qcd 63 25 = some (.ireturn, 1) := by decide +kernel
theorem c63_26 : qcd 63 26 = some (.aload_n 0, 1) := by decide +kernel
theorem c63_27 : qcd 63 27 = some (.getfield 19, 3) := by decide +kernel
theorem c63_30 : qcd 63 30 = some (.getfield 149, 3) := by decide +kernel
theorem c63_33 : qcd 63 33 = some (.iload_n 1, 1) := by decide +kernel
theorem c63_34 : qcd 63 34 = some (.iconst 1, 1) := by decide +kernel
theorem c63_35 : qcd 63 35 = some (.iastore, 1) := by decide +kernel
theorem c63_36 : qcd 63 36 = some (.iconst 1, 1) := by decide +kernel
theorem c63_37 : qcd 63 37 = some (.ireturn, 1) := by decide +kernel
theorem c64_0 : qcd 64 0 = some (.aload_n 0, 1) := by decide +kernel
theorem c64_1 : qcd 64 1 = some (.getfield 69, 3) := by decide +kernel
theorem c64_4 : qcd 64 4 = some (.iload_n 1, 1) := by decide +kernel
theorem c64_5 : qcd 64 5 = some (.invokevirtual 309, 3) := by decide +kernel
theorem c64_8 : qcd 64 8 = some (.ifCond .eq 14, 3) := by decide +kernel
theorem c64_11 : qcd 64 11 = some (.aload_n 0, 1) := by decide +kernel
theorem c64_12 : qcd 64 12 = some (.getfield 69, 3) := by decide +kernel
theorem c64_15 : qcd 64 15 = some (.iload_n 2, 1) := by decide +kernel
theorem c64_16 : qcd 64 16 = some (.invokevirtual 309, 3) := by decide +kernel
theorem c64_19 : qcd 64 19 = some (.ifCond .ne 5, 3) := by decide +kernel
theorem c64_22 : qcd 64 22 = some (.iconst (-1), 1) := by decide +kernel
theorem c64_23 : qcd 64 23 = some (.ireturn, 1) := by decide +kernel
theorem c64_24 : qcd 64 24 = some (.aload_n 0, 1) := by decide +kernel
theorem c64_25 : qcd 64 25 = some (.getfield 69, 3) := by decide +kernel
theorem c64_28 : qcd 64 28 = some (.iload_n 1, 1) := by decide +kernel
theorem c64_29 : qcd 64 29 = some (.iload_n 2, 1) := by decide +kernel
theorem c64_30 : qcd 64 30 = some (.invokevirtual 318, 3) := by decide +kernel
theorem c64_33 : qcd 64 33 = some (.ireturn, 1) := by decide +kernel
theorem c65_0 : qcd 65 0 = some (.iload_n 1, 1) := by decide +kernel
theorem c65_1 : qcd 65 1 = some (.invokestatic 104, 3) := by decide +kernel
theorem c65_4 : qcd 65 4 = some (.ifCond .eq 26, 3) := by decide +kernel
theorem c65_7 : qcd 65 7 = some (.iload_n 2, 1) := by decide +kernel
theorem c65_8 : qcd 65 8 = some (.iconst 0, 1) := by decide +kernel
theorem c65_9 : qcd 65 9 = some (.sipush 9999, 3) := by decide +kernel
theorem c65_12 : qcd 65 12 = some (.invokestatic 108, 3) := by decide +kernel
theorem c65_15 : qcd 65 15 = some (.ifCond .eq 15, 3) := by decide +kernel
theorem c65_18 : qcd 65 18 = some (.aload_n 0, 1) := by decide +kernel
theorem c65_19 : qcd 65 19 = some (.getfield 69, 3) := by decide +kernel
theorem c65_22 : qcd 65 22 = some (.getfield 303, 3) := by decide +kernel
theorem c65_25 : qcd 65 25 = some (.bipush 40, 2) := by decide +kernel
theorem c65_27 : qcd 65 27 = some (.if_icmp .lt 5, 3) := by decide +kernel
theorem c65_30 : qcd 65 30 = some (.iconst (-1), 1) := by decide +kernel
theorem c65_31 : qcd 65 31 = some (.ireturn, 1) := by decide +kernel
theorem c65_32 : qcd 65 32 = some (.aload_n 0, 1) := by decide +kernel
theorem c65_33 : qcd 65 33 = some (.getfield 69, 3) := by decide +kernel
theorem c65_36 : qcd 65 36 = some (.iload_n 1, 1) := by decide +kernel
theorem c65_37 : qcd 65 37 = some (.iload_n 2, 1) := by decide +kernel
theorem c65_38 : qcd 65 38 = some (.invokevirtual 306, 3) := by decide +kernel
theorem c65_41 : qcd 65 41 = some (.ireturn, 1) := by decide +kernel
theorem c66_0 : qcd 66 0 = some (.iload_n 1, 1) := by decide +kernel
theorem c66_1 : qcd 66 1 = some (.iconst 1, 1) := by decide +kernel
theorem c66_2 : qcd 66 2 = some (.sipush 160, 3) := by decide +kernel
theorem c66_5 : qcd 66 5 = some (.invokestatic 108, 3) := by decide +kernel
theorem c66_8 : qcd 66 8 = some (.ifCond .eq 14, 3) := by decide +kernel
theorem c66_11 : qcd 66 11 = some (.iload_n 1, 1) := by decide +kernel
theorem c66_12 : qcd 66 12 = some (.aload_n 0, 1) := by decide +kernel
theorem c66_13 : qcd 66 13 = some (.getfield 83, 3) := by decide +kernel
theorem c66_16 : qcd 66 16 = some (.getfield 172, 3) := by decide +kernel
theorem c66_19 : qcd 66 19 = some (.if_icmp .le 5, 3) := by decide +kernel
theorem c66_22 : qcd 66 22 = some (.iconst (-1), 1) := by decide +kernel
theorem c66_23 : qcd 66 23 = some (.ireturn, 1) := by decide +kernel
theorem c66_24 : qcd 66 24 = some (.aload_n 0, 1) := by decide +kernel
theorem c66_25 : qcd 66 25 = some (.getfield 83, 3) := by decide +kernel
theorem c66_28 : qcd 66 28 = some (.iconst 0, 1) := by decide +kernel
theorem c66_29 : qcd 66 29 = some (.putfield 172, 3) := by decide +kernel
theorem c66_32 : qcd 66 32 = some (.aload_n 0, 1) := by decide +kernel
theorem c66_33 : qcd 66 33 = some (.getfield 93, 3) := by decide +kernel
theorem c66_36 : qcd 66 36 = some (.aload_n 0, 1) := by decide +kernel
theorem c66_37 : qcd 66 37 = some (.getfield 83, 3) := by decide +kernel
theorem c66_40 : qcd 66 40 = some (.getfield 175, 3) := by decide +kernel
theorem c66_43 : qcd 66 43 = some (.iload_n 1, 1) := by decide +kernel
theorem c66_44 : qcd 66 44 = some (.invokevirtual 178, 3) := by decide +kernel
theorem c66_47 : qcd 66 47 = some (.istore_n 2, 1) := by decide +kernel
theorem c66_48 : qcd 66 48 = some (.iload_n 2, 1) := by decide +kernel
theorem c66_49 : qcd 66 49 = some (.ifCond .le 27, 3) := by decide +kernel
theorem c66_52 : qcd 66 52 = some (.aload_n 0, 1) := by decide +kernel
theorem c66_53 : qcd 66 53 = some (.getfield 10, 3) := by decide +kernel
theorem c66_56 : qcd 66 56 = some (.getfield 182, 3) := by decide +kernel
theorem c66_59 : qcd 66 59 = some (.astore_n 3, 1) := by decide +kernel
theorem c66_60 : qcd 66 60 = some (.aload_n 0, 1) := by decide +kernel
theorem c66_61 : qcd 66 61 = some (.getfield 10, 3) := by decide +kernel
theorem c66_64 : qcd 66 64 = some (.aload_n 0, 1) := by decide +kernel
theorem c66_65 : qcd 66 65 = some (.getfield 93, 3) := by decide +kernel
theorem c66_68 : qcd 66 68 = some (.putfield 182, 3) := by decide +kernel
theorem c66_71 : qcd 66 71 = some (.aload_n 0, 1) := by decide +kernel
theorem c66_72 : qcd 66 72 = some (.aload_n 3, 1) := by decide +kernel
theorem c66_73 : qcd 66 73 = some (.putfield 93, 3) := by decide +kernel
theorem c66_76 : qcd 66 76 = some (.iload_n 2, 1) := by decide +kernel
theorem c66_77 : qcd 66 77 = some (.ireturn, 1) := by decide +kernel
theorem c67_0 : qcd 67 0 = some (.aload_n 0, 1) := by decide +kernel
theorem c67_1 : qcd 67 1 = some (.getfield 10, 3) := by decide +kernel
theorem c67_4 : qcd 67 4 = some (.iload_n 1, 1) := by decide +kernel
theorem c67_5 : qcd 67 5 = some (.invokevirtual 152, 3) := by decide +kernel
theorem c67_8 : qcd 67 8 = some (.ifCond .eq 15, 3) := by decide +kernel
theorem c67_11 : qcd 67 11 = some (.aload_n 0, 1) := by decide +kernel
theorem c67_12 : qcd 67 12 = some (.getfield 19, 3) := by decide +kernel
theorem c67_15 : qcd 67 15 = some (.iload_n 1, 1) := by decide +kernel
theorem c67_16 : qcd 67 16 = some (.invokevirtual 155, 3) := by decide +kernel
theorem c67_19 : qcd 67 19 = some (.iload_n 2, 1) := by decide +kernel
theorem c67_20 : qcd 67 20 = some (.if_icmp .ne 5, 3) := by decide +kernel
theorem c67_23 : qcd 67 23 = some (.iconst 0, 1) := by decide +kernel
theorem c67_24 : qcd 67 24 = some (.ireturn, 1) := by decide +kernel
theorem c67_25 : qcd 67 25 = some (.aload_n 0, 1) := by decide +kernel
theorem c67_26 : qcd 67 26 = some (.getfield 19, 3) := by decide +kernel
theorem c67_29 : qcd 67 29 = some (.dup, 1) := by decide +kernel
theorem c67_30 : qcd 67 30 = some (.getfield 133, 3) := by decide +kernel
theorem c67_33 : qcd 67 33 = some (.iconst 1, 1) := by decide +kernel
theorem c67_34 : qcd 67 34 = some (.iload_n 1, 1) := by decide +kernel
theorem c67_35 : qcd 67 35 = some (.ishl, 1) := by decide +kernel
theorem c67_36 : qcd 67 36 = some (.ixor, 1) := by decide +kernel
theorem c67_37 : qcd 67 37 = some (.putfield 133, 3) := by decide +kernel
theorem c67_40 : qcd 67 40 = some (.iconst 1, 1) := by decide +kernel
theorem c67_41 : qcd 67 41 = some (.ireturn, 1) := by decide +kernel
theorem c68_0 : qcd 68 0 = some (.aload_n 0, 1) := by decide +kernel
theorem c68_1 : qcd 68 1 = some (.getfield 10, 3) := by decide +kernel
theorem c68_4 : qcd 68 4 = some (.iload_n 1, 1) := by decide +kernel
theorem c68_5 : qcd 68 5 = some (.invokevirtual 122, 3) := by decide +kernel
theorem c68_8 : qcd 68 8 = some (.ifCond .eq 15, 3) := by decide +kernel
theorem c68_11 : qcd 68 11 = some (.aload_n 0, 1) := by decide +kernel
theorem c68_12 : qcd 68 12 = some (.getfield 19, 3) := by decide +kernel
theorem c68_15 : qcd 68 15 = some (.iload_n 1, 1) := by decide +kernel
theorem c68_16 : qcd 68 16 = some (.invokevirtual 158, 3) := by decide +kernel
theorem c68_19 : qcd 68 19 = some (.iload_n 2, 1) := by decide +kernel
theorem c68_20 : qcd 68 20 = some (.if_icmp .ne 5, 3) := by decide +kernel
theorem c68_23 : qcd 68 23 = some (.iconst 0, 1) := by decide +kernel
theorem c68_24 : qcd 68 24 = some (.ireturn, 1) := by decide +kernel
theorem c68_25 : qcd 68 25 = some (.aload_n 0, 1) := by decide +kernel
theorem c68_26 : qcd 68 26 = some (.getfield 19, 3) := by decide +kernel
theorem c68_29 : qcd 68 29 = some (.dup, 1) := by decide +kernel
theorem c68_30 : qcd 68 30 = some (.getfield 161, 3) := by decide +kernel
theorem c68_33 : qcd 68 33 = some (.iconst 1, 1) := by decide +kernel
theorem c68_34 : qcd 68 34 = some (.iload_n 1, 1) := by decide +kernel
theorem c68_35 : qcd 68 35 = some (.ishl, 1) := by decide +kernel
theorem c68_36 : qcd 68 36 = some (.ixor, 1) := by decide +kernel
theorem c68_37 : qcd 68 37 = some (.putfield 161, 3) := by decide +kernel
theorem c68_40 : qcd 68 40 = some (.iconst 1, 1) := by decide +kernel
theorem c68_41 : qcd 68 41 = some (.ireturn, 1) := by decide +kernel
theorem c69_0 : qcd 69 0 = some (.iload_n 1, 1) := by decide +kernel
theorem c69_1 : qcd 69 1 = some (.invokestatic 104, 3) := by decide +kernel
theorem c69_4 : qcd 69 4 = some (.ifCond .eq 30, 3) := by decide +kernel
theorem c69_7 : qcd 69 7 = some (.aload_n 0, 1) := by decide +kernel
theorem c69_8 : qcd 69 8 = some (.getfield 10, 3) := by decide +kernel
theorem c69_11 : qcd 69 11 = some (.iload_n 2, 1) := by decide +kernel
theorem c69_12 : qcd 69 12 = some (.invokevirtual 140, 3) := by decide +kernel
theorem c69_15 : qcd 69 15 = some (.ifCond .eq 19, 3) := by decide +kernel
theorem c69_18 : qcd 69 18 = some (.aload_n 0, 1) := by decide +kernel
theorem c69_19 : qcd 69 19 = some (.getfield 62, 3) := by decide +kernel
theorem c69_22 : qcd 69 22 = some (.aload_n 0, 1) := by decide +kernel
theorem c69_23 : qcd 69 23 = some (.getfield 10, 3) := by decide +kernel
theorem c69_26 : qcd 69 26 = some (.iload_n 1, 1) := by decide +kernel
theorem c69_27 : qcd 69 27 = some (.iload_n 2, 1) := by decide +kernel
theorem c69_28 : qcd 69 28 = some (.invokevirtual 268, 3) := by decide +kernel
theorem c69_31 : qcd 69 31 = some (.ifCond .ne 7, 3) := by decide +kernel
theorem c69_34 : qcd 69 34 = some (.ldc2_w 272, 3) := by decide +kernel
theorem c69_37 : qcd 69 37 = some (.lreturn, 1) := by decide +kernel
theorem c69_38 : qcd 69 38 = some (.iload_n 3, 1) := by decide +kernel
theorem c69_39 : qcd 69 39 = some (.tableswitch 63 0 2 #[25, 40, 52], 25) := by decide +kernel
theorem c69_64 : qcd 69 64 = some (.aload_n 0, 1) := by decide +kernel
theorem c69_65 : qcd 69 65 = some (.getfield 62, 3) := by decide +kernel
theorem c69_68 : qcd 69 68 = some (.getfield 274, 3) := by decide +kernel
theorem c69_71 : qcd 69 71 = some (.iload_n 1, 1) := by decide +kernel
theorem c69_72 : qcd 69 72 = some (.iaload, 1) := by decide +kernel
theorem c69_73 : qcd 69 73 = some (.iload_n 2, 1) := by decide +kernel
theorem c69_74 : qcd 69 74 = some (.ishr, 1) := by decide +kernel
theorem c69_75 : qcd 69 75 = some (.iconst 1, 1) := by decide +kernel
theorem c69_76 : qcd 69 76 = some (.iand, 1) := by decide +kernel
theorem c69_77 : qcd 69 77 = some (.i2l, 1) := by decide +kernel
theorem c69_78 : qcd 69 78 = some (.lreturn, 1) := by decide +kernel
theorem c69_79 : qcd 69 79 = some (.aload_n 0, 1) := by decide +kernel
theorem c69_80 : qcd 69 80 = some (.getfield 62, 3) := by decide +kernel
theorem c69_83 : qcd 69 83 = some (.getfield 277, 3) := by decide +kernel
theorem c69_86 : qcd 69 86 = some (.iload_n 1, 1) := by decide +kernel
theorem c69_87 : qcd 69 87 = some (.aaload, 1) := by decide +kernel
theorem c69_88 : qcd 69 88 = some (.iload_n 2, 1) := by decide +kernel
theorem c69_89 : qcd 69 89 = some (.laload, 1) := by decide +kernel
theorem c69_90 : qcd 69 90 = some (.lreturn, 1) := by decide +kernel
theorem c69_91 : qcd 69 91 = some (.aload_n 0, 1) := by decide +kernel
theorem c69_92 : qcd 69 92 = some (.getfield 62, 3) := by decide +kernel
theorem c69_95 : qcd 69 95 = some (.getfield 281, 3) := by decide +kernel
theorem c69_98 : qcd 69 98 = some (.iload_n 1, 1) := by decide +kernel
theorem c69_99 : qcd 69 99 = some (.iaload, 1) := by decide +kernel
theorem c69_100 : qcd 69 100 = some (.i2l, 1) := by decide +kernel
theorem c69_101 : qcd 69 101 = some (.lreturn, 1) := by decide +kernel
theorem c69_102 : qcd 69 102 = some (.ldc2_w 272, 3) := by decide +kernel
theorem c69_105 : qcd 69 105 = some (.lreturn, 1) := by decide +kernel
