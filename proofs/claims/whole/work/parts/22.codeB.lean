/-! Instructions by their place. -/
theorem c70_0 : qcd 70 0 = some (.iload_n 1, 1) := by decide +kernel
theorem c70_1 : qcd 70 1 = some (.invokestatic 104, 3) := by decide +kernel
theorem c70_4 : qcd 70 4 = some (.ifCond .eq 15, 3) := by decide +kernel
theorem c70_7 : qcd 70 7 = some (.aload_n 0, 1) := by decide +kernel
theorem c70_8 : qcd 70 8 = some (.getfield 62, 3) := by decide +kernel
theorem c70_11 : qcd 70 11 = some (.getfield 265, 3) := by decide +kernel
theorem c70_14 : qcd 70 14 = some (.iload_n 1, 1) := by decide +kernel
theorem c70_15 : qcd 70 15 = some (.iaload, 1) := by decide +kernel
theorem c70_16 : qcd 70 16 = some (.goto 4, 3) := by decide +kernel
theorem c70_19 : qcd 70 19 = some (.iconst (-1), 1) := by decide +kernel
theorem c70_20 : qcd 70 20 = some (.ireturn, 1) := by decide +kernel
theorem c71_0 : qcd 71 0 = some (.aload_n 0, 1) := by decide +kernel
theorem c71_1 : qcd 71 1 = some (.getfield 19, 3) := by decide +kernel
theorem c71_4 : qcd 71 4 = some (.getfield 97, 3) := by decide +kernel
theorem c71_7 : qcd 71 7 = some (.ifCond .ne 47, 3) := by decide +kernel
theorem c71_10 : qcd 71 10 = some (.aload_n 0, 1) := by decide +kernel
theorem c71_11 : qcd 71 11 = some (.getfield 10, 3) := by decide +kernel
theorem c71_14 : qcd 71 14 = some (.getfield 101, 3) := by decide +kernel
theorem c71_17 : qcd 71 17 = some (.bipush 8, 2) := by decide +kernel
theorem c71_19 : qcd 71 19 = some (.if_icmp .ge 35, 3) := by decide +kernel
theorem c71_22 : qcd 71 22 = some (.iload_n 1, 1) := by decide +kernel
theorem c71_23 : qcd 71 23 = some (.invokestatic 104, 3) := by decide +kernel
theorem c71_26 : qcd 71 26 = some (.ifCond .eq 28, 3) := by decide +kernel
theorem c71_29 : qcd 71 29 = some (.iload_n 2, 1) := by decide +kernel
theorem c71_30 : qcd 71 30 = some (.iconst 0, 1) := by decide +kernel
theorem c71_31 : qcd 71 31 = some (.sipush 2000, 3) := by decide +kernel
theorem c71_34 : qcd 71 34 = some (.invokestatic 108, 3) := by decide +kernel
theorem c71_37 : qcd 71 37 = some (.ifCond .eq 17, 3) := by decide +kernel
theorem c71_40 : qcd 71 40 = some (.iload_n 3, 1) := by decide +kernel
theorem c71_41 : qcd 71 41 = some (.iconst 0, 1) := by decide +kernel
theorem c71_42 : qcd 71 42 = some (.bipush 9, 2) := by decide +kernel
theorem c71_44 : qcd 71 44 = some (.invokestatic 108, 3) := by decide +kernel
theorem c71_47 : qcd 71 47 = some (.ifCond .eq 7, 3) := by decide +kernel
theorem c71_50 : qcd 71 50 = some (.iconst 1, 1) := by decide +kernel
theorem c71_51 : qcd 71 51 = some (.goto 4, 3) := by decide +kernel
theorem c71_54 : qcd 71 54 = some (.iconst 0, 1) := by decide +kernel
theorem c71_55 : qcd 71 55 = some (.istore 4, 2) := by decide +kernel
theorem c71_57 : qcd 71 57 = some (.iload 4, 2) := by decide +kernel
theorem c71_59 : qcd 71 59 = some (.ifCond .ne 5, 3) := by decide +kernel
theorem c71_62 : qcd 71 62 = some (.iconst (-1), 1) := by decide +kernel
theorem c71_63 : qcd 71 63 = some (.ireturn, 1) := by decide +kernel
theorem c71_64 : qcd 71 64 = some (.aload_n 0, 1) := by decide +kernel
theorem c71_65 : qcd 71 65 = some (.getfield 19, 3) := by decide +kernel
theorem c71_68 : qcd 71 68 = some (.getfield 112, 3) := by decide +kernel
theorem c71_71 : qcd 71 71 = some (.aload_n 0, 1) := by decide +kernel
theorem c71_72 : qcd 71 72 = some (.getfield 10, 3) := by decide +kernel
theorem c71_75 : qcd 71 75 = some (.getfield 101, 3) := by decide +kernel
theorem c71_78 : qcd 71 78 = some (.iload_n 2, 1) := by decide +kernel
theorem c71_79 : qcd 71 79 = some (.iastore, 1) := by decide +kernel
theorem c71_80 : qcd 71 80 = some (.aload_n 0, 1) := by decide +kernel
theorem c71_81 : qcd 71 81 = some (.getfield 10, 3) := by decide +kernel
theorem c71_84 : qcd 71 84 = some (.iload_n 1, 1) := by decide +kernel
theorem c71_85 : qcd 71 85 = some (.iload_n 3, 1) := by decide +kernel
theorem c71_86 : qcd 71 86 = some (.invokevirtual 115, 3) := by decide +kernel
theorem c71_89 : qcd 71 89 = some (.ireturn, 1) := by decide +kernel
theorem c72_0 : qcd 72 0 = some (.aload_n 0, 1) := by decide +kernel
theorem c72_1 : qcd 72 1 = some (.getfield 10, 3) := by decide +kernel
theorem c72_4 : qcd 72 4 = some (.iload_n 1, 1) := by decide +kernel
theorem c72_5 : qcd 72 5 = some (.invokevirtual 122, 3) := by decide +kernel
theorem c72_8 : qcd 72 8 = some (.ifCond .eq 12, 3) := by decide +kernel
theorem c72_11 : qcd 72 11 = some (.iload_n 2, 1) := by decide +kernel
theorem c72_12 : qcd 72 12 = some (.iconst 0, 1) := by decide +kernel
theorem c72_13 : qcd 72 13 = some (.iconst 4, 1) := by decide +kernel
theorem c72_14 : qcd 72 14 = some (.invokestatic 108, 3) := by decide +kernel
theorem c72_17 : qcd 72 17 = some (.ifCond .ne 5, 3) := by decide +kernel
theorem c72_20 : qcd 72 20 = some (.iconst (-1), 1) := by decide +kernel
theorem c72_21 : qcd 72 21 = some (.ireturn, 1) := by decide +kernel
theorem c72_22 : qcd 72 22 = some (.iload_n 2, 1) := by decide +kernel
theorem c72_23 : qcd 72 23 = some (.ifCond .ne 13, 3) := by decide +kernel
theorem c72_26 : qcd 72 26 = some (.aload_n 0, 1) := by decide +kernel
theorem c72_27 : qcd 72 27 = some (.getfield 19, 3) := by decide +kernel
theorem c72_30 : qcd 72 30 = some (.getfield 112, 3) := by decide +kernel
theorem c72_33 : qcd 72 33 = some (.iload_n 1, 1) := by decide +kernel
theorem c72_34 : qcd 72 34 = some (.iaload, 1) := by decide +kernel
theorem c72_35 : qcd 72 35 = some (.ireturn, 1) := by decide +kernel
theorem c72_36 : qcd 72 36 = some (.iload_n 2, 1) := by decide +kernel
theorem c72_37 : qcd 72 37 = some (.iconst 1, 1) := by decide +kernel
theorem c72_38 : qcd 72 38 = some (.if_icmp .ne 20, 3) := by decide +kernel
theorem c72_41 : qcd 72 41 = some (.aload_n 0, 1) := by decide +kernel
theorem c72_42 : qcd 72 42 = some (.getfield 19, 3) := by decide +kernel
theorem c72_45 : qcd 72 45 = some (.iload_n 1, 1) := by decide +kernel
theorem c72_46 : qcd 72 46 = some (.invokevirtual 158, 3) := by decide +kernel
theorem c72_49 : qcd 72 49 = some (.ifCond .eq 7, 3) := by decide +kernel
theorem c72_52 : qcd 72 52 = some (.iconst 1, 1) := by decide +kernel
theorem c72_53 : qcd 72 53 = some (.goto 4, 3) := by decide +kernel
theorem c72_56 : qcd 72 56 = some (.iconst 0, 1) := by decide +kernel
theorem c72_57 : qcd 72 57 = some (.ireturn, 1) := by decide +kernel
theorem c72_58 : qcd 72 58 = some (.aload_n 0, 1) := by decide +kernel
theorem c72_59 : qcd 72 59 = some (.getfield 34, 3) := by decide +kernel
theorem c72_62 : qcd 72 62 = some (.aload_n 0, 1) := by decide +kernel
theorem c72_63 : qcd 72 63 = some (.getfield 10, 3) := by decide +kernel
theorem c72_66 : qcd 72 66 = some (.aload_n 0, 1) := by decide +kernel
theorem c72_67 : qcd 72 67 = some (.getfield 19, 3) := by decide +kernel
theorem c72_70 : qcd 72 70 = some (.invokevirtual 217, 3) := by decide +kernel
theorem c72_73 : qcd 72 73 = some (.iload_n 2, 1) := by decide +kernel
theorem c72_74 : qcd 72 74 = some (.iconst 2, 1) := by decide +kernel
theorem c72_75 : qcd 72 75 = some (.if_icmp .ne 15, 3) := by decide +kernel
theorem c72_78 : qcd 72 78 = some (.aload_n 0, 1) := by decide +kernel
theorem c72_79 : qcd 72 79 = some (.getfield 34, 3) := by decide +kernel
theorem c72_82 : qcd 72 82 = some (.getfield 235, 3) := by decide +kernel
theorem c72_85 : qcd 72 85 = some (.iload_n 1, 1) := by decide +kernel
theorem c72_86 : qcd 72 86 = some (.ishr, 1) := by decide +kernel
theorem c72_87 : qcd 72 87 = some (.iconst 1, 1) := by decide +kernel
theorem c72_88 : qcd 72 88 = some (.iand, 1) := by decide +kernel
theorem c72_89 : qcd 72 89 = some (.ireturn, 1) := by decide +kernel
theorem c72_90 : qcd 72 90 = some (.iload_n 2, 1) := by decide +kernel
theorem c72_91 : qcd 72 91 = some (.iconst 3, 1) := by decide +kernel
theorem c72_92 : qcd 72 92 = some (.if_icmp .ne 15, 3) := by decide +kernel
theorem c72_95 : qcd 72 95 = some (.aload_n 0, 1) := by decide +kernel
theorem c72_96 : qcd 72 96 = some (.getfield 34, 3) := by decide +kernel
theorem c72_99 : qcd 72 99 = some (.getfield 236, 3) := by decide +kernel
theorem c72_102 : qcd 72 102 = some (.iload_n 1, 1) := by decide +kernel
theorem c72_103 : qcd 72 103 = some (.iaload, 1) := by decide +kernel
theorem c72_104 : qcd 72 104 = some (.goto 12, 3) := by decide +kernel
theorem c72_107 : qcd 72 107 = some (.aload_n 0, 1) := by decide +kernel
theorem c72_108 : qcd 72 108 = some (.getfield 34, 3) := by decide +kernel
theorem c72_111 : qcd 72 111 = some (.getfield 239, 3) := by decide +kernel
theorem c72_114 : qcd 72 114 = some (.iload_n 1, 1) := by decide +kernel
theorem c72_115 : qcd 72 115 = some (.iaload, 1) := by decide +kernel
theorem c72_116 : qcd 72 116 = some (.ireturn, 1) := by decide +kernel
theorem c73_0 : qcd 73 0 = some (.iload_n 1, 1) := by decide +kernel
theorem c73_1 : qcd 73 1 = some (.aload_n 0, 1) := by decide +kernel
theorem c73_2 : qcd 73 2 = some (.getfield 19, 3) := by decide +kernel
theorem c73_5 : qcd 73 5 = some (.getfield 97, 3) := by decide +kernel
theorem c73_8 : qcd 73 8 = some (.if_icmp .ne 8, 3) := by decide +kernel
theorem c73_11 : qcd 73 11 = some (.aload_n 0, 1) := by decide +kernel
theorem c73_12 : qcd 73 12 = some (.getfield 19, 3) := by decide +kernel
theorem c73_15 : qcd 73 15 = some (.areturn, 1) := by decide +kernel
theorem c73_16 : qcd 73 16 = some (.aload_n 0, 1) := by decide +kernel
theorem c73_17 : qcd 73 17 = some (.iload_n 1, 1) := by decide +kernel
theorem c73_18 : qcd 73 18 = some (.invokevirtual 258, 3) := by decide +kernel
theorem c73_21 : qcd 73 21 = some (.ifCond .eq 12, 3) := by decide +kernel
theorem c73_24 : qcd 73 24 = some (.aload_n 0, 1) := by decide +kernel
theorem c73_25 : qcd 73 25 = some (.getfield 23, 3) := by decide +kernel
theorem c73_28 : qcd 73 28 = some (.iload_n 1, 1) := by decide +kernel
theorem c73_29 : qcd 73 29 = some (.aaload, 1) := by decide +kernel
theorem c73_30 : qcd 73 30 = some (.goto 4, 3) := by decide +kernel
theorem c73_33 : qcd 73 33 = some (.aconst_null, 1) := by decide +kernel
theorem c73_34 : qcd 73 34 = some (.areturn, 1) := by decide +kernel
theorem c74_0 : qcd 74 0 = some (.iload_n 1, 1) := by decide +kernel
theorem c74_1 : qcd 74 1 = some (.invokestatic 104, 3) := by decide +kernel
theorem c74_4 : qcd 74 4 = some (.ifCond .eq 16, 3) := by decide +kernel
theorem c74_7 : qcd 74 7 = some (.aload_n 0, 1) := by decide +kernel
theorem c74_8 : qcd 74 8 = some (.getfield 62, 3) := by decide +kernel
theorem c74_11 : qcd 74 11 = some (.getfield 261, 3) := by decide +kernel
theorem c74_14 : qcd 74 14 = some (.iload_n 1, 1) := by decide +kernel
theorem c74_15 : qcd 74 15 = some (.baload, 1) := by decide +kernel
theorem c74_16 : qcd 74 16 = some (.iload_n 2, 1) := by decide +kernel
theorem c74_17 : qcd 74 17 = some (.if_icmp .ne 5, 3) := by decide +kernel
theorem c74_20 : qcd 74 20 = some (.iconst 0, 1) := by decide +kernel
theorem c74_21 : qcd 74 21 = some (.ireturn, 1) := by decide +kernel
theorem c74_22 : qcd 74 22 = some (.aload_n 0, 1) := by decide +kernel
theorem c74_23 : qcd 74 23 = some (.getfield 62, 3) := by decide +kernel
theorem c74_26 : qcd 74 26 = some (.getfield 261, 3) := by decide +kernel
theorem c74_29 : qcd 74 29 = some (.iload_n 1, 1) := by decide +kernel
theorem c74_30 : qcd 74 30 = some (.iload_n 2, 1) := by decide +kernel
theorem c74_31 : qcd 74 31 = some (.bastore, 1) := by decide +kernel
theorem c74_32 : qcd 74 32 = some (.aload_n 0, 1) := by decide +kernel
theorem c74_33 : qcd 74 33 = some (.getfield 62, 3) := by decide +kernel
theorem c74_36 : qcd 74 36 = some (.getfield 265, 3) := by decide +kernel
theorem c74_39 : qcd 74 39 = some (.iload_n 1, 1) := by decide +kernel
theorem c74_40 : qcd 74 40 = some (.iconst (-1), 1) := by decide +kernel
theorem c74_41 : qcd 74 41 = some (.iastore, 1) := by decide +kernel
theorem c74_42 : qcd 74 42 = some (.iconst 1, 1) := by decide +kernel
theorem c74_43 : qcd 74 43 = some (.ireturn, 1) := by decide +kernel
theorem c75_0 : qcd 75 0 = some (.aload_n 0, 1) := by decide +kernel
theorem c75_1 : qcd 75 1 = some (.getfield 10, 3) := by decide +kernel
theorem c75_4 : qcd 75 4 = some (.iload_n 1, 1) := by decide +kernel
theorem c75_5 : qcd 75 5 = some (.invokevirtual 140, 3) := by decide +kernel
theorem c75_8 : qcd 75 8 = some (.ifCond .eq 13, 3) := by decide +kernel
theorem c75_11 : qcd 75 11 = some (.iload_n 2, 1) := by decide +kernel
theorem c75_12 : qcd 75 12 = some (.iconst 0, 1) := by decide +kernel
theorem c75_13 : qcd 75 13 = some (.ldc 125, 2) := by decide +kernel
theorem c75_15 : qcd 75 15 = some (.invokestatic 108, 3) := by decide +kernel
theorem c75_18 : qcd 75 18 = some (.ifCond .ne 5, 3) := by decide +kernel
theorem c75_21 : qcd 75 21 = some (.iconst 0, 1) := by decide +kernel
theorem c75_22 : qcd 75 22 = some (.ireturn, 1) := by decide +kernel
theorem c75_23 : qcd 75 23 = some (.aload_n 0, 1) := by decide +kernel
theorem c75_24 : qcd 75 24 = some (.getfield 19, 3) := by decide +kernel
theorem c75_27 : qcd 75 27 = some (.getfield 143, 3) := by decide +kernel
theorem c75_30 : qcd 75 30 = some (.iload_n 1, 1) := by decide +kernel
theorem c75_31 : qcd 75 31 = some (.iload_n 2, 1) := by decide +kernel
theorem c75_32 : qcd 75 32 = some (.iastore, 1) := by decide +kernel
theorem c75_33 : qcd 75 33 = some (.iconst 1, 1) := by decide +kernel
theorem c75_34 : qcd 75 34 = some (.ireturn, 1) := by decide +kernel
theorem c76_0 : qcd 76 0 = some (.aload_n 0, 1) := by decide +kernel
theorem c76_1 : qcd 76 1 = some (.getfield 10, 3) := by decide +kernel
theorem c76_4 : qcd 76 4 = some (.iload_n 1, 1) := by decide +kernel
theorem c76_5 : qcd 76 5 = some (.invokevirtual 140, 3) := by decide +kernel
theorem c76_8 : qcd 76 8 = some (.ifCond .eq 37, 3) := by decide +kernel
theorem c76_11 : qcd 76 11 = some (.aload_n 0, 1) := by decide +kernel
theorem c76_12 : qcd 76 12 = some (.getfield 19, 3) := by decide +kernel
theorem c76_15 : qcd 76 15 = some (.getfield 149, 3) := by decide +kernel
theorem c76_18 : qcd 76 18 = some (.iload_n 1, 1) := by decide +kernel
theorem c76_19 : qcd 76 19 = some (.iaload, 1) := by decide +kernel
theorem c76_20 : qcd 76 20 = some (.iconst 3, 1) := by decide +kernel
theorem c76_21 : qcd 76 21 = some (.if_icmp .eq 24, 3) := by decide +kernel
theorem c76_24 : qcd 76 24 = some (.aload_n 0, 1) := by decide +kernel
theorem c76_25 : qcd 76 25 = some (.getfield 19, 3) := by decide +kernel
theorem c76_28 : qcd 76 28 = some (.getfield 149, 3) := by decide +kernel
theorem c76_31 : qcd 76 31 = some (.iload_n 1, 1) := by decide +kernel
theorem c76_32 : qcd 76 32 = some (.iaload, 1) := by decide +kernel
theorem c76_33 : qcd 76 33 = some (.ifCond .ne 7, 3) := by decide +kernel
theorem c76_36 : qcd 76 36 = some (.iconst 1, 1) := by decide +kernel
theorem c76_37 : qcd 76 37 = some (.goto 4, 3) := by decide +kernel
theorem c76_40 : qcd 76 40 = some (.iconst 0, 1) := by decide +kernel
theorem c76_41 : qcd 76 41 = some (.iload_n 2, 1) := by decide +kernel
theorem c76_42 : qcd 76 42 = some (.if_icmp .ne 5, 3) := by decide +kernel
theorem c76_45 : qcd 76 45 = some (.iconst 0, 1) := by decide +kernel
theorem c76_46 : qcd 76 46 = some (.ireturn, 1) := by decide +kernel
theorem c76_47 : qcd 76 47 = some (.aload_n 0, 1) := by decide +kernel
theorem c76_48 : qcd 76 48 = some (.getfield 19, 3) := by decide +kernel
theorem c76_51 : qcd 76 51 = some (.getfield 149, 3) := by decide +kernel
theorem c76_54 : qcd 76 54 = some (.iload_n 1, 1) := by decide +kernel
theorem c76_55 : qcd 76 55 = some (.iload_n 2, 1) := by decide +kernel
theorem c76_56 : qcd 76 56 = some (.ifCond .eq 7, 3) := by decide +kernel
theorem c76_59 : qcd 76 59 = some (.iconst 0, 1) := by decide +kernel
theorem c76_60 : qcd 76 60 = some (.goto 4, 3) := by decide +kernel
theorem c76_63 : qcd 76 63 = some (.iconst 1, 1) := by decide +kernel
theorem c76_64 : qcd 76 64 = some (.iastore, 1) := by decide +kernel
theorem c76_65 : qcd 76 65 = some (.iconst 1, 1) := by decide +kernel
theorem c76_66 : qcd 76 66 = some (.ireturn, 1) := by decide +kernel
theorem c77_0 : qcd 77 0 = some (.aload_n 0, 1) := by decide +kernel
theorem c77_1 : qcd 77 1 = some (.getfield 19, 3) := by decide +kernel
theorem c77_4 : qcd 77 4 = some (.getfield 97, 3) := by decide +kernel
theorem c77_7 : qcd 77 7 = some (.ifCond .ne 78, 3) := by decide +kernel
theorem c77_10 : qcd 77 10 = some (.aload_n 0, 1) := by decide +kernel
theorem c77_11 : qcd 77 11 = some (.getfield 10, 3) := by decide +kernel
theorem c77_14 : qcd 77 14 = some (.getfield 119, 3) := by decide +kernel
theorem c77_17 : qcd 77 17 = some (.bipush 14, 2) := by decide +kernel
theorem c77_19 : qcd 77 19 = some (.if_icmp .ge 66, 3) := by decide +kernel
theorem c77_22 : qcd 77 22 = some (.aload_n 0, 1) := by decide +kernel
theorem c77_23 : qcd 77 23 = some (.getfield 10, 3) := by decide +kernel
theorem c77_26 : qcd 77 26 = some (.iload_n 1, 1) := by decide +kernel
theorem c77_27 : qcd 77 27 = some (.invokevirtual 122, 3) := by decide +kernel
theorem c77_30 : qcd 77 30 = some (.ifCond .eq 55, 3) := by decide +kernel
theorem c77_33 : qcd 77 33 = some (.aload_n 0, 1) := by decide +kernel
theorem c77_34 : qcd 77 34 = some (.getfield 10, 3) := by decide +kernel
theorem c77_37 : qcd 77 37 = some (.iload_n 2, 1) := by decide +kernel
theorem c77_38 : qcd 77 38 = some (.invokevirtual 122, 3) := by decide +kernel
theorem c77_41 : qcd 77 41 = some (.ifCond .eq 44, 3) := by decide +kernel
theorem c77_44 : qcd 77 44 = some (.iload_n 1, 1) := by decide +kernel
theorem c77_45 : qcd 77 45 = some (.iload_n 2, 1) := by decide +kernel
theorem c77_46 : qcd 77 46 = some (.if_icmp .eq 39, 3) := by decide +kernel
theorem c77_49 : qcd 77 49 = some (.iload_n 3, 1) := by decide +kernel
theorem c77_50 : qcd 77 50 = some (.iconst 1, 1) := by decide +kernel
theorem c77_51 : qcd 77 51 = some (.iconst 3, 1) := by decide +kernel
theorem c77_52 : qcd 77 52 = some (.invokestatic 108, 3) := by decide +kernel
theorem c77_55 : qcd 77 55 = some (.ifCond .eq 30, 3) := by decide +kernel
theorem c77_58 : qcd 77 58 = some (.iload 4, 2) := by decide +kernel
theorem c77_60 : qcd 77 60 = some (.iconst 1, 1) := by decide +kernel
theorem c77_61 : qcd 77 61 = some (.sipush 5000, 3) := by decide +kernel
theorem c77_64 : qcd 77 64 = some (.invokestatic 108, 3) := by decide +kernel
theorem c77_67 : qcd 77 67 = some (.ifCond .eq 18, 3) := by decide +kernel
theorem c77_70 : qcd 77 70 = some (.iload 5, 2) := by decide +kernel
theorem c77_72 : qcd 77 72 = some (.iconst 1, 1) := by decide +kernel
theorem c77_73 : qcd 77 73 = some (.ldc 125, 2) := by decide +kernel
theorem c77_75 : qcd 77 75 = some (.invokestatic 108, 3) := by decide +kernel
theorem c77_78 : qcd 77 78 = some (.ifCond .eq 7, 3) := by decide +kernel
theorem c77_81 : qcd 77 81 = some (.iconst 1, 1) := by decide +kernel
theorem c77_82 : qcd 77 82 = some (.goto 4, 3) := by decide +kernel
theorem c77_85 : qcd 77 85 = some (.iconst 0, 1) := by decide +kernel
theorem c77_86 : qcd 77 86 = some (.istore 6, 2) := by decide +kernel
theorem c77_88 : qcd 77 88 = some (.iload 6, 2) := by decide +kernel
theorem c77_90 : qcd 77 90 = some (.ifCond .eq 20, 3) := by decide +kernel
theorem c77_93 : qcd 77 93 = some (.aload_n 0, 1) := by decide +kernel
theorem c77_94 : qcd 77 94 = some (.getfield 10, 3) := by decide +kernel
theorem c77_97 : qcd 77 97 = some (.iload_n 1, 1) := by decide +kernel
theorem c77_98 : qcd 77 98 = some (.iload_n 2, 1) := by decide +kernel
theorem c77_99 : qcd 77 99 = some (.iload_n 3, 1) := by decide +kernel
theorem c77_100 : qcd 77 100 = some (.iload 4, 2) := by decide +kernel
theorem c77_102 : qcd 77 102 = some (.iload 5, 2) := by decide +kernel
theorem c77_104 : qcd 77 104 = some (.invokevirtual 126, 3) := by decide +kernel
theorem c77_107 : qcd 77 107 = some (.goto 4, 3) := by decide +kernel
theorem c77_110 : qcd 77 110 = some (.iconst (-1), 1) := by decide +kernel
theorem c77_111 : qcd 77 111 = some (.ireturn, 1) := by decide +kernel
theorem c78_0 : qcd 78 0 = some (.aload_n 0, 1) := by decide +kernel
theorem c78_1 : qcd 78 1 = some (.getfield 10, 3) := by decide +kernel
theorem c78_4 : qcd 78 4 = some (.iload_n 1, 1) := by decide +kernel
theorem c78_5 : qcd 78 5 = some (.invokevirtual 140, 3) := by decide +kernel
theorem c78_8 : qcd 78 8 = some (.ifCond .ne 5, 3) := by decide +kernel
theorem c78_11 : qcd 78 11 = some (.iconst (-1), 1) := by decide +kernel
theorem c78_12 : qcd 78 12 = some (.ireturn, 1) := by decide +kernel
theorem c78_13 : qcd 78 13 = some (.iload_n 2, 1) := by decide +kernel
theorem c78_14 : qcd 78 14 = some (.tableswitch 77 0 3 #[30, 40, 50, 60], 30) := by decide +kernel
theorem c78_44 : qcd 78 44 = some (.aload_n 0, 1) := by decide +kernel
theorem c78_45 : qcd 78 45 = some (.getfield 19, 3) := by decide +kernel
theorem c78_48 : qcd 78 48 = some (.getfield 149, 3) := by decide +kernel
theorem c78_51 : qcd 78 51 = some (.iload_n 1, 1) := by decide +kernel
theorem c78_52 : qcd 78 52 = some (.iaload, 1) := by decide +kernel
theorem c78_53 : qcd 78 53 = some (.ireturn, 1) := by decide +kernel
theorem c78_54 : qcd 78 54 = some (.aload_n 0, 1) := by decide +kernel
theorem c78_55 : qcd 78 55 = some (.getfield 19, 3) := by decide +kernel
theorem c78_58 : qcd 78 58 = some (.getfield 225, 3) := by decide +kernel
theorem c78_61 : qcd 78 61 = some (.iload_n 1, 1) := by decide +kernel
theorem c78_62 : qcd 78 62 = some (.iaload, 1) := by decide +kernel
theorem c78_63 : qcd 78 63 = some (.ireturn, 1) := by decide +kernel
theorem c78_64 : qcd 78 64 = some (.aload_n 0, 1) := by decide +kernel
theorem c78_65 : qcd 78 65 = some (.getfield 19, 3) := by decide +kernel
theorem c78_68 : qcd 78 68 = some (.getfield 143, 3) := by decide +kernel
theorem c78_71 : qcd 78 71 = some (.iload_n 1, 1) := by decide +kernel
theorem c78_72 : qcd 78 72 = some (.iaload, 1) := by decide +kernel
theorem c78_73 : qcd 78 73 = some (.ireturn, 1) := by decide +kernel
theorem c78_74 : qcd 78 74 = some (.aload_n 0, 1) := by decide +kernel
theorem c78_75 : qcd 78 75 = some (.getfield 41, 3) := by decide +kernel
theorem c78_78 : qcd 78 78 = some (.aload_n 0, 1) := by decide +kernel
theorem c78_79 : qcd 78 79 = some (.getfield 10, 3) := by decide +kernel
theorem c78_82 : qcd 78 82 = some (.aload_n 0, 1) := by decide +kernel
theorem c78_83 : qcd 78 83 = some (.getfield 19, 3) := by decide +kernel
theorem c78_86 : qcd 78 86 = some (.iload_n 1, 1) := by decide +kernel
theorem c78_87 : qcd 78 87 = some (.invokevirtual 228, 3) := by decide +kernel
theorem c78_90 : qcd 78 90 = some (.ireturn, 1) := by decide +kernel
theorem c78_91 : qcd 78 91 = some (.iconst (-1), 1) := by decide +kernel
theorem c78_92 : qcd 78 92 = some (.ireturn, 1) := by decide +kernel
theorem c79_0 : qcd 79 0 = some (.iconst 0, 1) := by decide +kernel
theorem c79_1 : qcd 79 1 = some (.istore_n 3, 1) := by decide +kernel
theorem c79_2 : qcd 79 2 = some (.iconst 0, 1) := by decide +kernel
theorem c79_3 : qcd 79 3 = some (.istore 4, 2) := by decide +kernel
theorem c79_5 : qcd 79 5 = some (.iload 4, 2) := by decide +kernel
theorem c79_7 : qcd 79 7 = some (.iload_n 2, 1) := by decide +kernel
theorem c79_8 : qcd 79 8 = some (.if_icmp .ge 31, 3) := by decide +kernel
theorem c79_11 : qcd 79 11 = some (.iload_n 1, 1) := by decide +kernel
theorem c79_12 : qcd 79 12 = some (.iload 4, 2) := by decide +kernel
theorem c79_14 : qcd 79 14 = some (.ishr, 1) := by decide +kernel
theorem c79_15 : qcd 79 15 = some (.iconst 1, 1) := by decide +kernel
theorem c79_16 : qcd 79 16 = some (.iand, 1) := by decide +kernel
theorem c79_17 : qcd 79 17 = some (.iconst 1, 1) := by decide +kernel
theorem c79_18 : qcd 79 18 = some (.if_icmp .ne 15, 3) := by decide +kernel
theorem c79_21 : qcd 79 21 = some (.iload_n 3, 1) := by decide +kernel
theorem c79_22 : qcd 79 22 = some (.iconst 1, 1) := by decide +kernel
theorem c79_23 : qcd 79 23 = some (.aload_n 0, 1) := by decide +kernel
theorem c79_24 : qcd 79 24 = some (.getfield 87, 3) := by decide +kernel
theorem c79_27 : qcd 79 27 = some (.iload 4, 2) := by decide +kernel
theorem c79_29 : qcd 79 29 = some (.iaload, 1) := by decide +kernel
theorem c79_30 : qcd 79 30 = some (.ishl, 1) := by decide +kernel
theorem c79_31 : qcd 79 31 = some (.ior, 1) := by decide +kernel
theorem c79_32 : qcd 79 32 = some (.istore_n 3, 1) := by decide +kernel
theorem c79_33 : qcd 79 33 = some (.iinc 4 1, 3) := by decide +kernel
theorem c79_36 : qcd 79 36 = some (.goto (-31), 3) := by decide +kernel
theorem c79_39 : qcd 79 39 = some (.iload_n 3, 1) := by decide +kernel
theorem c79_40 : qcd 79 40 = some (.ireturn, 1) := by decide +kernel
theorem c80_0 : qcd 80 0 = some (.iload_n 1, 1) := by decide +kernel
theorem c80_1 : qcd 80 1 = some (.iload_n 0, 1) := by decide +kernel
theorem c80_2 : qcd 80 2 = some (.if_icmp .gt 12, 3) := by decide +kernel
theorem c80_5 : qcd 80 5 = some (.iload_n 0, 1) := by decide +kernel
theorem c80_6 : qcd 80 6 = some (.iload_n 2, 1) := by decide +kernel
theorem c80_7 : qcd 80 7 = some (.if_icmp .gt 7, 3) := by decide +kernel
theorem c80_10 : qcd 80 10 = some (.iconst 1, 1) := by decide +kernel
theorem c80_11 : qcd 80 11 = some (.goto 4, 3) := by decide +kernel
theorem c80_14 : qcd 80 14 = some (.iconst 0, 1) := by decide +kernel
theorem c80_15 : qcd 80 15 = some (.ireturn, 1) := by decide +kernel
theorem c81_0 : qcd 81 0 = some (.aload_n 0, 1) := by decide +kernel
theorem c81_1 : qcd 81 1 = some (.getfield 19, 3) := by decide +kernel
theorem c81_4 : qcd 81 4 = some (.getfield 97, 3) := by decide +kernel
theorem c81_7 : qcd 81 7 = some (.ifCond .ne 51, 3) := by decide +kernel
theorem c81_10 : qcd 81 10 = some (.aload_n 0, 1) := by decide +kernel
theorem c81_11 : qcd 81 11 = some (.getfield 10, 3) := by decide +kernel
theorem c81_14 : qcd 81 14 = some (.getfield 130, 3) := by decide +kernel
theorem c81_17 : qcd 81 17 = some (.bipush 9, 2) := by decide +kernel
theorem c81_19 : qcd 81 19 = some (.if_icmp .ge 39, 3) := by decide +kernel
theorem c81_22 : qcd 81 22 = some (.aload_n 0, 1) := by decide +kernel
theorem c81_23 : qcd 81 23 = some (.getfield 10, 3) := by decide +kernel
theorem c81_26 : qcd 81 26 = some (.iload_n 1, 1) := by decide +kernel
theorem c81_27 : qcd 81 27 = some (.invokevirtual 122, 3) := by decide +kernel
theorem c81_30 : qcd 81 30 = some (.ifCond .eq 28, 3) := by decide +kernel
theorem c81_33 : qcd 81 33 = some (.iload_n 2, 1) := by decide +kernel
theorem c81_34 : qcd 81 34 = some (.iconst 1, 1) := by decide +kernel
theorem c81_35 : qcd 81 35 = some (.sipush 5000, 3) := by decide +kernel
theorem c81_38 : qcd 81 38 = some (.invokestatic 108, 3) := by decide +kernel
theorem c81_41 : qcd 81 41 = some (.ifCond .eq 17, 3) := by decide +kernel
theorem c81_44 : qcd 81 44 = some (.iload_n 3, 1) := by decide +kernel
theorem c81_45 : qcd 81 45 = some (.iconst 0, 1) := by decide +kernel
theorem c81_46 : qcd 81 46 = some (.bipush 99, 2) := by decide +kernel
theorem c81_48 : qcd 81 48 = some (.invokestatic 108, 3) := by decide +kernel
theorem c81_51 : qcd 81 51 = some (.ifCond .eq 7, 3) := by decide +kernel
theorem c81_54 : qcd 81 54 = some (.iconst 1, 1) := by decide +kernel
theorem c81_55 : qcd 81 55 = some (.goto 4, 3) := by decide +kernel
theorem c81_58 : qcd 81 58 = some (.iconst 0, 1) := by decide +kernel
theorem c81_59 : qcd 81 59 = some (.istore 4, 2) := by decide +kernel
theorem c81_61 : qcd 81 61 = some (.iload 4, 2) := by decide +kernel
theorem c81_63 : qcd 81 63 = some (.ifCond .ne 5, 3) := by decide +kernel
theorem c81_66 : qcd 81 66 = some (.iconst (-1), 1) := by decide +kernel
theorem c81_67 : qcd 81 67 = some (.ireturn, 1) := by decide +kernel
theorem c81_68 : qcd 81 68 = some (.aload_n 0, 1) := by decide +kernel
theorem c81_69 : qcd 81 69 = some (.getfield 19, 3) := by decide +kernel
theorem c81_72 : qcd 81 72 = some (.dup, 1) := by decide +kernel
theorem c81_73 : qcd 81 73 = some (.getfield 133, 3) := by decide +kernel
theorem c81_76 : qcd 81 76 = some (.iconst 1, 1) := by decide +kernel
theorem c81_77 : qcd 81 77 = some (.aload_n 0, 1) := by decide +kernel
theorem c81_78 : qcd 81 78 = some (.getfield 10, 3) := by decide +kernel
theorem c81_81 : qcd 81 81 = some (.getfield 130, 3) := by decide +kernel
theorem c81_84 : qcd 81 84 = some (.ishl, 1) := by decide +kernel
theorem c81_85 : qcd 81 85 = some (.ior, 1) := by decide +kernel
theorem c81_86 : qcd 81 86 = some (.putfield 133, 3) := by decide +kernel
theorem c81_89 : qcd 81 89 = some (.aload_n 0, 1) := by decide +kernel
theorem c81_90 : qcd 81 90 = some (.getfield 10, 3) := by decide +kernel
theorem c81_93 : qcd 81 93 = some (.iload_n 1, 1) := by decide +kernel
theorem c81_94 : qcd 81 94 = some (.iload_n 2, 1) := by decide +kernel
theorem c81_95 : qcd 81 95 = some (.iload_n 3, 1) := by decide +kernel
theorem c81_96 : qcd 81 96 = some (.invokevirtual 136, 3) := by decide +kernel
theorem c81_99 : qcd 81 99 = some (.ireturn, 1) := by decide +kernel
theorem c82_0 : qcd 82 0 = some (.aload_n 0, 1) := by decide +kernel
theorem c82_1 : qcd 82 1 = some (.getfield 10, 3) := by decide +kernel
theorem c82_4 : qcd 82 4 = some (.iload_n 1, 1) := by decide +kernel
theorem c82_5 : qcd 82 5 = some (.invokevirtual 152, 3) := by decide +kernel
theorem c82_8 : qcd 82 8 = some (.ifCond .ne 5, 3) := by decide +kernel
theorem c82_11 : qcd 82 11 = some (.iconst (-1), 1) := by decide +kernel
theorem c82_12 : qcd 82 12 = some (.ireturn, 1) := by decide +kernel
theorem c82_13 : qcd 82 13 = some (.iload_n 2, 1) := by decide +kernel
theorem c82_14 : qcd 82 14 = some (.ifCond .ne 20, 3) := by decide +kernel
theorem c82_17 : qcd 82 17 = some (.aload_n 0, 1) := by decide +kernel
theorem c82_18 : qcd 82 18 = some (.getfield 19, 3) := by decide +kernel
theorem c82_21 : qcd 82 21 = some (.iload_n 1, 1) := by decide +kernel
theorem c82_22 : qcd 82 22 = some (.invokevirtual 155, 3) := by decide +kernel
theorem c82_25 : qcd 82 25 = some (.ifCond .eq 7, 3) := by decide +kernel
theorem c82_28 : qcd 82 28 = some (.iconst 1, 1) := by decide +kernel
theorem c82_29 : qcd 82 29 = some (.goto 4, 3) := by decide +kernel
theorem c82_32 : qcd 82 32 = some (.iconst 0, 1) := by decide +kernel
theorem c82_33 : qcd 82 33 = some (.ireturn, 1) := by decide +kernel
theorem c82_34 : qcd 82 34 = some (.iload_n 2, 1) := by decide +kernel
theorem c82_35 : qcd 82 35 = some (.iconst 1, 1) := by decide +kernel
theorem c82_36 : qcd 82 36 = some (.if_icmp .ne 28, 3) := by decide +kernel
theorem c82_39 : qcd 82 39 = some (.aload_n 0, 1) := by decide +kernel
theorem c82_40 : qcd 82 40 = some (.getfield 34, 3) := by decide +kernel
theorem c82_43 : qcd 82 43 = some (.aload_n 0, 1) := by decide +kernel
theorem c82_44 : qcd 82 44 = some (.getfield 10, 3) := by decide +kernel
theorem c82_47 : qcd 82 47 = some (.aload_n 0, 1) := by decide +kernel
theorem c82_48 : qcd 82 48 = some (.getfield 19, 3) := by decide +kernel
theorem c82_51 : qcd 82 51 = some (.invokevirtual 217, 3) := by decide +kernel
theorem c82_54 : qcd 82 54 = some (.aload_n 0, 1) := by decide +kernel
theorem c82_55 : qcd 82 55 = some (.getfield 34, 3) := by decide +kernel
theorem c82_58 : qcd 82 58 = some (.getfield 232, 3) := by decide +kernel
theorem c82_61 : qcd 82 61 = some (.iload_n 1, 1) := by decide +kernel
theorem c82_62 : qcd 82 62 = some (.iaload, 1) := by decide +kernel
theorem c82_63 : qcd 82 63 = some (.ireturn, 1) := by decide +kernel
theorem c82_64 : qcd 82 64 = some (.iconst (-1), 1) := by decide +kernel
theorem c82_65 : qcd 82 65 = some (.ireturn, 1) := by decide +kernel
theorem c83_0 : qcd 83 0 = some (.aload_n 0, 1) := by decide +kernel
theorem c83_1 : qcd 83 1 = some (.getfield 197, 3) := by decide +kernel
theorem c83_4 : qcd 83 4 = some (.ifCond .ne 7, 3) := by decide +kernel
theorem c83_7 : qcd 83 7 = some (.ldc2_w 530, 3) := by decide +kernel
theorem c83_10 : qcd 83 10 = some (.lreturn, 1) := by decide +kernel
theorem c83_11 : qcd 83 11 = some (.iload_n 1, 1) := by decide +kernel
theorem c83_12 : qcd 83 12 = some (.i2l, 1) := by decide +kernel
theorem c83_13 : qcd 83 13 = some (.ldc2_w 482, 3) := by decide +kernel
theorem c83_16 : qcd 83 16 = some (.aload_n 0, 1) := by decide +kernel
theorem c83_17 : qcd 83 17 = some (.getfield 197, 3) := by decide +kernel
theorem c83_20 : qcd 83 20 = some (.iconst 1, 1) := by decide +kernel
theorem c83_21 : qcd 83 21 = some (.isub, 1) := by decide +kernel
theorem c83_22 : qcd 83 22 = some (.i2l, 1) := by decide +kernel
theorem c83_23 : qcd 83 23 = some (.invokestatic 190, 3) := by decide +kernel
theorem c83_26 : qcd 83 26 = some (.ifCond .ne 7, 3) := by decide +kernel
theorem c83_29 : qcd 83 29 = some (.ldc2_w 482, 3) := by decide +kernel
theorem c83_32 : qcd 83 32 = some (.lreturn, 1) := by decide +kernel
theorem c83_33 : qcd 83 33 = some (.aload_n 0, 1) := by decide +kernel
theorem c83_34 : qcd 83 34 = some (.ldc 230, 2) := by decide +kernel
theorem c83_36 : qcd 83 36 = some (.iconst 1, 1) := by decide +kernel
theorem c83_37 : qcd 83 37 = some (.invokevirtual 263, 3) := by decide +kernel
theorem c83_40 : qcd 83 40 = some (.iconst 1, 1) := by decide +kernel
theorem c83_41 : qcd 83 41 = some (.aload_n 0, 1) := by decide +kernel
theorem c83_42 : qcd 83 42 = some (.getfield 197, 3) := by decide +kernel
theorem c83_45 : qcd 83 45 = some (.ishl, 1) := by decide +kernel
theorem c83_46 : qcd 83 46 = some (.iconst 1, 1) := by decide +kernel
theorem c83_47 : qcd 83 47 = some (.isub, 1) := by decide +kernel
theorem c83_48 : qcd 83 48 = some (.istore_n 2, 1) := by decide +kernel
theorem c83_49 : qcd 83 49 = some (.aload_n 0, 1) := by decide +kernel
theorem c83_50 : qcd 83 50 = some (.getfield 179, 3) := by decide +kernel
theorem c83_53 : qcd 83 53 = some (.iload_n 2, 1) := by decide +kernel
theorem c83_54 : qcd 83 54 = some (.lconst 0, 1) := by decide +kernel
theorem c83_55 : qcd 83 55 = some (.lastore, 1) := by decide +kernel
theorem c83_56 : qcd 83 56 = some (.iload_n 2, 1) := by decide +kernel
theorem c83_57 : qcd 83 57 = some (.iconst 1, 1) := by decide +kernel
theorem c83_58 : qcd 83 58 = some (.isub, 1) := by decide +kernel
theorem c83_59 : qcd 83 59 = some (.istore_n 3, 1) := by decide +kernel
theorem c83_60 : qcd 83 60 = some (.iload_n 3, 1) := by decide +kernel
theorem c83_61 : qcd 83 61 = some (.ifCond .lt 95, 3) := by decide +kernel
theorem c83_64 : qcd 83 64 = some (.aload_n 0, 1) := by decide +kernel
theorem c83_65 : qcd 83 65 = some (.getfield 179, 3) := by decide +kernel
theorem c83_68 : qcd 83 68 = some (.iload_n 3, 1) := by decide +kernel
theorem c83_69 : qcd 83 69 = some (.ldc2_w 482, 3) := by decide +kernel
theorem c83_72 : qcd 83 72 = some (.lastore, 1) := by decide +kernel
theorem c83_73 : qcd 83 73 = some (.iconst 0, 1) := by decide +kernel
theorem c83_74 : qcd 83 74 = some (.istore 4, 2) := by decide +kernel
theorem c83_76 : qcd 83 76 = some (.iload 4, 2) := by decide +kernel
theorem c83_78 : qcd 83 78 = some (.aload_n 0, 1) := by decide +kernel
theorem c83_79 : qcd 83 79 = some (.getfield 197, 3) := by decide +kernel
theorem c83_82 : qcd 83 82 = some (.if_icmp .ge 68, 3) := by decide +kernel
theorem c83_85 : qcd 83 85 = some (.iload_n 3, 1) := by decide +kernel
theorem c83_86 : qcd 83 86 = some (.iload 4, 2) := by decide +kernel
theorem c83_88 : qcd 83 88 = some (.invokestatic 248, 3) := by decide +kernel
theorem c83_91 : qcd 83 91 = some (.ifCond .eq 6, 3) := by decide +kernel
theorem c83_94 : qcd 83 94 = some (.goto 50, 3) := by decide +kernel
theorem c83_97 : qcd 83 97 = some (.aload_n 0, 1) := by decide +kernel
theorem c83_98 : qcd 83 98 = some (.iload_n 3, 1) := by decide +kernel
theorem c83_99 : qcd 83 99 = some (.iload 4, 2) := by decide +kernel
theorem c83_101 : qcd 83 101 = some (.invokevirtual 532, 3) := by decide +kernel
theorem c83_104 : qcd 83 104 = some (.lstore 5, 2) := by decide +kernel
theorem c83_106 : qcd 83 106 = some (.lload 5, 2) := by decide +kernel
theorem c83_108 : qcd 83 108 = some (.lconst 0, 1) := by decide +kernel
theorem c83_109 : qcd 83 109 = some (.lcmp, 1) := by decide +kernel
theorem c83_110 : qcd 83 110 = some (.ifCond .lt 34, 3) := by decide +kernel
theorem c83_113 : qcd 83 113 = some (.aload_n 0, 1) := by decide +kernel
theorem c83_114 : qcd 83 114 = some (.getfield 179, 3) := by decide +kernel
theorem c83_117 : qcd 83 117 = some (.iload_n 3, 1) := by decide +kernel
theorem c83_118 : qcd 83 118 = some (.laload, 1) := by decide +kernel
theorem c83_119 : qcd 83 119 = some (.lconst 0, 1) := by decide +kernel
theorem c83_120 : qcd 83 120 = some (.lcmp, 1) := by decide +kernel
theorem c83_121 : qcd 83 121 = some (.ifCond .lt 15, 3) := by decide +kernel
theorem c83_124 : qcd 83 124 = some (.lload 5, 2) := by decide +kernel
theorem c83_126 : qcd 83 126 = some (.aload_n 0, 1) := by decide +kernel
theorem c83_127 : qcd 83 127 = some (.getfield 179, 3) := by decide +kernel
theorem c83_130 : qcd 83 130 = some (.iload_n 3, 1) := by decide +kernel
theorem c83_131 : qcd 83 131 = some (.laload, 1) := by decide +kernel
theorem c83_132 : qcd 83 132 = some (.lcmp, 1) := by decide +kernel
theorem c83_133 : qcd 83 133 = some (.ifCond .ge 11, 3) := by decide +kernel
theorem c83_136 : qcd 83 136 = some (.aload_n 0, 1) := by decide +kernel
theorem c83_137 : qcd 83 137 = some (.getfield 179, 3) := by decide +kernel
theorem c83_140 : qcd 83 140 = some (.iload_n 3, 1) := by decide +kernel
theorem c83_141 : qcd 83 141 = some (.lload 5, 2) := by decide +kernel
theorem c83_143 : qcd 83 143 = some (.lastore, 1) := by decide +kernel
theorem c83_144 : qcd 83 144 = some (.iinc 4 1, 3) := by decide +kernel
theorem c83_147 : qcd 83 147 = some (.goto (-71), 3) := by decide +kernel
theorem c83_150 : qcd 83 150 = some (.iinc 3 (-1), 3) := by decide +kernel
theorem c83_153 : qcd 83 153 = some (.goto (-93), 3) := by decide +kernel
theorem c83_156 : qcd 83 156 = some (.aload_n 0, 1) := by decide +kernel
theorem c83_157 : qcd 83 157 = some (.getfield 179, 3) := by decide +kernel
theorem c83_160 : qcd 83 160 = some (.iconst 0, 1) := by decide +kernel
theorem c83_161 : qcd 83 161 = some (.laload, 1) := by decide +kernel
theorem c83_162 : qcd 83 162 = some (.lconst 0, 1) := by decide +kernel
theorem c83_163 : qcd 83 163 = some (.lcmp, 1) := by decide +kernel
theorem c83_164 : qcd 83 164 = some (.ifCond .ge 7, 3) := by decide +kernel
theorem c83_167 : qcd 83 167 = some (.ldc2_w 530, 3) := by decide +kernel
theorem c83_170 : qcd 83 170 = some (.lreturn, 1) := by decide +kernel
theorem c83_171 : qcd 83 171 = some (.iload_n 1, 1) := by decide +kernel
theorem c83_172 : qcd 83 172 = some (.iconst (-1), 1) := by decide +kernel
theorem c83_173 : qcd 83 173 = some (.if_icmp .ne 10, 3) := by decide +kernel
theorem c83_176 : qcd 83 176 = some (.aload_n 0, 1) := by decide +kernel
theorem c83_177 : qcd 83 177 = some (.getfield 179, 3) := by decide +kernel
theorem c83_180 : qcd 83 180 = some (.iconst 0, 1) := by decide +kernel
theorem c83_181 : qcd 83 181 = some (.laload, 1) := by decide +kernel
theorem c83_182 : qcd 83 182 = some (.lreturn, 1) := by decide +kernel
theorem c83_183 : qcd 83 183 = some (.iconst 0, 1) := by decide +kernel
theorem c83_184 : qcd 83 184 = some (.istore_n 3, 1) := by decide +kernel
theorem c83_185 : qcd 83 185 = some (.iconst (-1), 1) := by decide +kernel
theorem c83_186 : qcd 83 186 = some (.istore 4, 2) := by decide +kernel
theorem c83_188 : qcd 83 188 = some (.iconst 0, 1) := by decide +kernel
theorem c83_189 : qcd 83 189 = some (.istore 5, 2) := by decide +kernel
theorem c83_191 : qcd 83 191 = some (.iload 5, 2) := by decide +kernel
theorem c83_193 : qcd 83 193 = some (.iload_n 1, 1) := by decide +kernel
theorem c83_194 : qcd 83 194 = some (.if_icmp .gt 51, 3) := by decide +kernel
theorem c83_197 : qcd 83 197 = some (.iconst 0, 1) := by decide +kernel
theorem c83_198 : qcd 83 198 = some (.istore 4, 2) := by decide +kernel
theorem c83_200 : qcd 83 200 = some (.iload_n 3, 1) := by decide +kernel
theorem c83_201 : qcd 83 201 = some (.iload 4, 2) := by decide +kernel
theorem c83_203 : qcd 83 203 = some (.invokestatic 248, 3) := by decide +kernel
theorem c83_206 : qcd 83 206 = some (.ifCond .ne 20, 3) := by decide +kernel
theorem c83_209 : qcd 83 209 = some (.aload_n 0, 1) := by decide +kernel
theorem c83_210 : qcd 83 210 = some (.iload_n 3, 1) := by decide +kernel
theorem c83_211 : qcd 83 211 = some (.iload 4, 2) := by decide +kernel
theorem c83_213 : qcd 83 213 = some (.invokevirtual 532, 3) := by decide +kernel
theorem c83_216 : qcd 83 216 = some (.aload_n 0, 1) := by decide +kernel
theorem c83_217 : qcd 83 217 = some (.getfield 179, 3) := by decide +kernel
theorem c83_220 : qcd 83 220 = some (.iload_n 3, 1) := by decide +kernel
theorem c83_221 : qcd 83 221 = some (.laload, 1) := by decide +kernel
theorem c83_222 : qcd 83 222 = some (.lcmp, 1) := by decide +kernel
theorem c83_223 : qcd 83 223 = some (.ifCond .eq 9, 3) := by decide +kernel
theorem c83_226 : qcd 83 226 = some (.iinc 4 1, 3) := by decide +kernel
theorem c83_229 : qcd 83 229 = some (.goto (-29), 3) := by decide +kernel
theorem c83_232 : qcd 83 232 = some (.iload_n 3, 1) := by decide +kernel
theorem c83_233 : qcd 83 233 = some (.iconst 1, 1) := by decide +kernel
theorem c83_234 : qcd 83 234 = some (.iload 4, 2) := by decide +kernel
theorem c83_236 : qcd 83 236 = some (.ishl, 1) := by decide +kernel
theorem c83_237 : qcd 83 237 = some (.ior, 1) := by decide +kernel
theorem c83_238 : qcd 83 238 = some (.istore_n 3, 1) := by decide +kernel
theorem c83_239 : qcd 83 239 = some (.iinc 5 1, 3) := by decide +kernel
theorem c83_242 : qcd 83 242 = some (.goto (-51), 3) := by decide +kernel
theorem c83_245 : qcd 83 245 = some (.iload 4, 2) := by decide +kernel
theorem c83_247 : qcd 83 247 = some (.i2l, 1) := by decide +kernel
theorem c83_248 : qcd 83 248 = some (.lreturn, 1) := by decide +kernel
theorem c84_0 : qcd 84 0 = some (.iload_n 1, 1) := by decide +kernel
theorem c84_1 : qcd 84 1 = some (.i2l, 1) := by decide +kernel
theorem c84_2 : qcd 84 2 = some (.lconst 0, 1) := by decide +kernel
theorem c84_3 : qcd 84 3 = some (.aload_n 0, 1) := by decide +kernel
theorem c84_4 : qcd 84 4 = some (.getfield 202, 3) := by decide +kernel
theorem c84_7 : qcd 84 7 = some (.iconst 1, 1) := by decide +kernel
theorem c84_8 : qcd 84 8 = some (.isub, 1) := by decide +kernel
theorem c84_9 : qcd 84 9 = some (.i2l, 1) := by decide +kernel
theorem c84_10 : qcd 84 10 = some (.invokestatic 190, 3) := by decide +kernel
theorem c84_13 : qcd 84 13 = some (.ifCond .eq 12, 3) := by decide +kernel
theorem c84_16 : qcd 84 16 = some (.aload_n 0, 1) := by decide +kernel
theorem c84_17 : qcd 84 17 = some (.getfield 131, 3) := by decide +kernel
theorem c84_20 : qcd 84 20 = some (.iload_n 1, 1) := by decide +kernel
theorem c84_21 : qcd 84 21 = some (.iaload, 1) := by decide +kernel
theorem c84_22 : qcd 84 22 = some (.goto 4, 3) := by decide +kernel
theorem c84_25 : qcd 84 25 = some (.iconst (-1), 1) := by decide +kernel
theorem c84_26 : qcd 84 26 = some (.ireturn, 1) := by decide +kernel
theorem c85_0 : qcd 85 0 = some (.aload_n 0, 1) := by decide +kernel
theorem c85_1 : qcd 85 1 = some (.getfield 510, 3) := by decide +kernel
theorem c85_4 : qcd 85 4 = some (.bipush 100, 2) := by decide +kernel
theorem c85_6 : qcd 85 6 = some (.if_icmp .eq 24, 3) := by decide +kernel
theorem c85_9 : qcd 85 9 = some (.aload_n 0, 1) := by decide +kernel
theorem c85_10 : qcd 85 10 = some (.iload_n 1, 1) := by decide +kernel
theorem c85_11 : qcd 85 11 = some (.invokevirtual 513, 3) := by decide +kernel
theorem c85_14 : qcd 85 14 = some (.ifCond .eq 16, 3) := by decide +kernel
theorem c85_17 : qcd 85 17 = some (.aload_n 0, 1) := by decide +kernel
theorem c85_18 : qcd 85 18 = some (.iload_n 2, 1) := by decide +kernel
theorem c85_19 : qcd 85 19 = some (.invokevirtual 513, 3) := by decide +kernel
theorem c85_22 : qcd 85 22 = some (.ifCond .eq 8, 3) := by decide +kernel
theorem c85_25 : qcd 85 25 = some (.iload_n 1, 1) := by decide +kernel
theorem c85_26 : qcd 85 26 = some (.iload_n 2, 1) := by decide +kernel
theorem c85_27 : qcd 85 27 = some (.if_icmp .ne 5, 3) := by decide +kernel
theorem c85_30 : qcd 85 30 = some (.iconst 0, 1) := by decide +kernel
theorem c85_31 : qcd 85 31 = some (.ireturn, 1) := by decide +kernel
theorem c85_32 : qcd 85 32 = some (.aload_n 0, 1) := by decide +kernel
theorem c85_33 : qcd 85 33 = some (.getfield 170, 3) := by decide +kernel
theorem c85_36 : qcd 85 36 = some (.aload_n 0, 1) := by decide +kernel
theorem c85_37 : qcd 85 37 = some (.getfield 510, 3) := by decide +kernel
theorem c85_40 : qcd 85 40 = some (.iload_n 1, 1) := by decide +kernel
theorem c85_41 : qcd 85 41 = some (.iastore, 1) := by decide +kernel
theorem c85_42 : qcd 85 42 = some (.aload_n 0, 1) := by decide +kernel
theorem c85_43 : qcd 85 43 = some (.getfield 173, 3) := by decide +kernel
theorem c85_46 : qcd 85 46 = some (.aload_n 0, 1) := by decide +kernel
theorem c85_47 : qcd 85 47 = some (.getfield 510, 3) := by decide +kernel
theorem c85_50 : qcd 85 50 = some (.iload_n 2, 1) := by decide +kernel
theorem c85_51 : qcd 85 51 = some (.iastore, 1) := by decide +kernel
theorem c85_52 : qcd 85 52 = some (.aload_n 0, 1) := by decide +kernel
theorem c85_53 : qcd 85 53 = some (.dup, 1) := by decide +kernel
theorem c85_54 : qcd 85 54 = some (.getfield 510, 3) := by decide +kernel
theorem c85_57 : qcd 85 57 = some (.iconst 1, 1) := by decide +kernel
theorem c85_58 : qcd 85 58 = some (.iadd, 1) := by decide +kernel
theorem c85_59 : qcd 85 59 = some (.putfield 510, 3) := by decide +kernel
theorem c85_62 : qcd 85 62 = some (.iconst 1, 1) := by decide +kernel
theorem c85_63 : qcd 85 63 = some (.ireturn, 1) := by decide +kernel
theorem c86_0 : qcd 86 0 = some (.aload_n 0, 1) := by decide +kernel
theorem c86_1 : qcd 86 1 = some (.iload_n 1, 1) := by decide +kernel
theorem c86_2 : qcd 86 2 = some (.invokevirtual 231, 3) := by decide +kernel
theorem c86_5 : qcd 86 5 = some (.ifCond .eq 15, 3) := by decide +kernel
theorem c86_8 : qcd 86 8 = some (.iload_n 3, 1) := by decide +kernel
theorem c86_9 : qcd 86 9 = some (.i2l, 1) := by decide +kernel
theorem c86_10 : qcd 86 10 = some (.lconst 1, 1) := by decide +kernel
theorem c86_11 : qcd 86 11 = some (.ldc2_w 277, 3) := by decide +kernel
theorem c86_14 : qcd 86 14 = some (.invokestatic 190, 3) := by decide +kernel
theorem c86_17 : qcd 86 17 = some (.ifCond .ne 5, 3) := by decide +kernel
theorem c86_20 : qcd 86 20 = some (.iconst 0, 1) := by decide +kernel
theorem c86_21 : qcd 86 21 = some (.ireturn, 1) := by decide +kernel
theorem c86_22 : qcd 86 22 = some (.aload_n 0, 1) := by decide +kernel
theorem c86_23 : qcd 86 23 = some (.getfield 51, 3) := by decide +kernel
theorem c86_26 : qcd 86 26 = some (.iload_n 1, 1) := by decide +kernel
theorem c86_27 : qcd 86 27 = some (.iload_n 2, 1) := by decide +kernel
theorem c86_28 : qcd 86 28 = some (.bastore, 1) := by decide +kernel
theorem c86_29 : qcd 86 29 = some (.aload_n 0, 1) := by decide +kernel
theorem c86_30 : qcd 86 30 = some (.getfield 55, 3) := by decide +kernel
theorem c86_33 : qcd 86 33 = some (.iload_n 1, 1) := by decide +kernel
theorem c86_34 : qcd 86 34 = some (.iload_n 3, 1) := by decide +kernel
theorem c86_35 : qcd 86 35 = some (.iastore, 1) := by decide +kernel
theorem c86_36 : qcd 86 36 = some (.iconst 1, 1) := by decide +kernel
theorem c86_37 : qcd 86 37 = some (.ireturn, 1) := by decide +kernel
theorem c87_0 : qcd 87 0 = some (.aload_n 0, 1) := by decide +kernel
theorem c87_1 : qcd 87 1 = some (.getfield 176, 3) := by decide +kernel
theorem c87_4 : qcd 87 4 = some (.iconst 5, 1) := by decide +kernel
theorem c87_5 : qcd 87 5 = some (.iload_n 1, 1) := by decide +kernel
theorem c87_6 : qcd 87 6 = some (.imul, 1) := by decide +kernel
theorem c87_7 : qcd 87 7 = some (.iload_n 2, 1) := by decide +kernel
theorem c87_8 : qcd 87 8 = some (.iadd, 1) := by decide +kernel
theorem c87_9 : qcd 87 9 = some (.iload_n 3, 1) := by decide +kernel
theorem c87_10 : qcd 87 10 = some (.aload_n 0, 1) := by decide +kernel
theorem c87_11 : qcd 87 11 = some (.getfield 176, 3) := by decide +kernel
theorem c87_14 : qcd 87 14 = some (.iconst 5, 1) := by decide +kernel
theorem c87_15 : qcd 87 15 = some (.iload_n 1, 1) := by decide +kernel
theorem c87_16 : qcd 87 16 = some (.imul, 1) := by decide +kernel
theorem c87_17 : qcd 87 17 = some (.iload_n 2, 1) := by decide +kernel
theorem c87_18 : qcd 87 18 = some (.iadd, 1) := by decide +kernel
theorem c87_19 : qcd 87 19 = some (.iaload, 1) := by decide +kernel
theorem c87_20 : qcd 87 20 = some (.if_icmp .ge 7, 3) := by decide +kernel
theorem c87_23 : qcd 87 23 = some (.iload_n 3, 1) := by decide +kernel
theorem c87_24 : qcd 87 24 = some (.goto 13, 3) := by decide +kernel
theorem c87_27 : qcd 87 27 = some (.aload_n 0, 1) := by decide +kernel
theorem c87_28 : qcd 87 28 = some (.getfield 176, 3) := by decide +kernel
theorem c87_31 : qcd 87 31 = some (.iconst 5, 1) := by decide +kernel
theorem c87_32 : qcd 87 32 = some (.iload_n 1, 1) := by decide +kernel
theorem c87_33 : qcd 87 33 = some (.imul, 1) := by decide +kernel
theorem c87_34 : qcd 87 34 = some (.iload_n 2, 1) := by decide +kernel
theorem c87_35 : qcd 87 35 = some (.iadd, 1) := by decide +kernel
theorem c87_36 : qcd 87 36 = some (.iaload, 1) := by decide +kernel
theorem c87_37 : qcd 87 37 = some (.iastore, 1) := by decide +kernel
theorem c87_38 : qcd 87 38 = some (.return_, 1) := by decide +kernel
theorem c88_0 : qcd 88 0 = some (.aload_n 0, 1) := by decide +kernel
theorem c88_1 : qcd 88 1 = some (.getfield 51, 3) := by decide +kernel
theorem c88_4 : qcd 88 4 = some (.iload_n 1, 1) := by decide +kernel
theorem c88_5 : qcd 88 5 = some (.baload, 1) := by decide +kernel
theorem c88_6 : qcd 88 6 = some (.ifCond .eq 5, 3) := by decide +kernel
theorem c88_9 : qcd 88 9 = some (.iconst 1, 1) := by decide +kernel
theorem c88_10 : qcd 88 10 = some (.ireturn, 1) := by decide +kernel
theorem c88_11 : qcd 88 11 = some (.iconst 0, 1) := by decide +kernel
theorem c88_12 : qcd 88 12 = some (.istore_n 3, 1) := by decide +kernel
theorem c88_13 : qcd 88 13 = some (.iload_n 3, 1) := by decide +kernel
theorem c88_14 : qcd 88 14 = some (.aload_n 0, 1) := by decide +kernel
theorem c88_15 : qcd 88 15 = some (.getfield 197, 3) := by decide +kernel
theorem c88_18 : qcd 88 18 = some (.if_icmp .ge 44, 3) := by decide +kernel
theorem c88_21 : qcd 88 21 = some (.iload_n 2, 1) := by decide +kernel
theorem c88_22 : qcd 88 22 = some (.iload_n 3, 1) := by decide +kernel
theorem c88_23 : qcd 88 23 = some (.invokestatic 248, 3) := by decide +kernel
theorem c88_26 : qcd 88 26 = some (.ifCond .eq 30, 3) := by decide +kernel
theorem c88_29 : qcd 88 29 = some (.aload_n 0, 1) := by decide +kernel
theorem c88_30 : qcd 88 30 = some (.getfield 58, 3) := by decide +kernel
theorem c88_33 : qcd 88 33 = some (.aload_n 0, 1) := by decide +kernel
theorem c88_34 : qcd 88 34 = some (.getfield 42, 3) := by decide +kernel
theorem c88_37 : qcd 88 37 = some (.iload_n 3, 1) := by decide +kernel
theorem c88_38 : qcd 88 38 = some (.iaload, 1) := by decide +kernel
theorem c88_39 : qcd 88 39 = some (.iaload, 1) := by decide +kernel
theorem c88_40 : qcd 88 40 = some (.aload_n 0, 1) := by decide +kernel
theorem c88_41 : qcd 88 41 = some (.getfield 58, 3) := by decide +kernel
theorem c88_44 : qcd 88 44 = some (.aload_n 0, 1) := by decide +kernel
theorem c88_45 : qcd 88 45 = some (.getfield 42, 3) := by decide +kernel
theorem c88_48 : qcd 88 48 = some (.iload_n 1, 1) := by decide +kernel
theorem c88_49 : qcd 88 49 = some (.iaload, 1) := by decide +kernel
theorem c88_50 : qcd 88 50 = some (.iaload, 1) := by decide +kernel
theorem c88_51 : qcd 88 51 = some (.if_icmp .ne 5, 3) := by decide +kernel
theorem c88_54 : qcd 88 54 = some (.iconst 1, 1) := by decide +kernel
theorem c88_55 : qcd 88 55 = some (.ireturn, 1) := by decide +kernel
theorem c88_56 : qcd 88 56 = some (.iinc 3 1, 3) := by decide +kernel
theorem c88_59 : qcd 88 59 = some (.goto (-46), 3) := by decide +kernel
theorem c88_62 : qcd 88 62 = some (.iconst 0, 1) := by decide +kernel
theorem c88_63 : qcd 88 63 = some (.ireturn, 1) := by decide +kernel
theorem c89_0 : qcd 89 0 = some (.aload_n 0, 1) := by decide +kernel
theorem c89_1 : qcd 89 1 = some (.ldc 230, 2) := by decide +kernel
theorem c89_3 : qcd 89 3 = some (.ldc_w 442, 3) := by decide +kernel
theorem c89_6 : qcd 89 6 = some (.invokevirtual 444, 3) := by decide +kernel
theorem c89_9 : qcd 89 9 = some (.aload_n 0, 1) := by decide +kernel
theorem c89_10 : qcd 89 10 = some (.ldc 230, 2) := by decide +kernel
theorem c89_12 : qcd 89 12 = some (.ldc_w 451, 3) := by decide +kernel
theorem c89_15 : qcd 89 15 = some (.invokevirtual 444, 3) := by decide +kernel
theorem c89_18 : qcd 89 18 = some (.aload_n 0, 1) := by decide +kernel
theorem c89_19 : qcd 89 19 = some (.ldc_w 451, 3) := by decide +kernel
theorem c89_22 : qcd 89 22 = some (.invokevirtual 429, 3) := by decide +kernel
theorem c89_25 : qcd 89 25 = some (.aload_n 0, 1) := by decide +kernel
theorem c89_26 : qcd 89 26 = some (.ldc_w 451, 3) := by decide +kernel
theorem c89_29 : qcd 89 29 = some (.invokevirtual 447, 3) := by decide +kernel
theorem c89_32 : qcd 89 32 = some (.istore_n 1, 1) := by decide +kernel
theorem c89_33 : qcd 89 33 = some (.iconst 0, 1) := by decide +kernel
theorem c89_34 : qcd 89 34 = some (.istore_n 2, 1) := by decide +kernel
theorem c89_35 : qcd 89 35 = some (.iconst 0, 1) := by decide +kernel
theorem c89_36 : qcd 89 36 = some (.istore_n 3, 1) := by decide +kernel
theorem c89_37 : qcd 89 37 = some (.iload_n 3, 1) := by decide +kernel
theorem c89_38 : qcd 89 38 = some (.aload_n 0, 1) := by decide +kernel
theorem c89_39 : qcd 89 39 = some (.getfield 194, 3) := by decide +kernel
theorem c89_42 : qcd 89 42 = some (.if_icmp .ge 36, 3) := by decide +kernel
theorem c89_45 : qcd 89 45 = some (.aload_n 0, 1) := by decide +kernel
theorem c89_46 : qcd 89 46 = some (.getfield 14, 3) := by decide +kernel
theorem c89_49 : qcd 89 49 = some (.ldc 230, 2) := by decide +kernel
theorem c89_51 : qcd 89 51 = some (.iload_n 3, 1) := by decide +kernel
theorem c89_52 : qcd 89 52 = some (.iadd, 1) := by decide +kernel
theorem c89_53 : qcd 89 53 = some (.iaload, 1) := by decide +kernel
theorem c89_54 : qcd 89 54 = some (.ifCond .ne 18, 3) := by decide +kernel
theorem c89_57 : qcd 89 57 = some (.aload_n 0, 1) := by decide +kernel
theorem c89_58 : qcd 89 58 = some (.iload_n 3, 1) := by decide +kernel
theorem c89_59 : qcd 89 59 = some (.iload_n 1, 1) := by decide +kernel
theorem c89_60 : qcd 89 60 = some (.invokevirtual 452, 3) := by decide +kernel
theorem c89_63 : qcd 89 63 = some (.ifCond .eq 9, 3) := by decide +kernel
theorem c89_66 : qcd 89 66 = some (.iload_n 2, 1) := by decide +kernel
theorem c89_67 : qcd 89 67 = some (.iconst 1, 1) := by decide +kernel
theorem c89_68 : qcd 89 68 = some (.iload_n 3, 1) := by decide +kernel
theorem c89_69 : qcd 89 69 = some (.ishl, 1) := by decide +kernel
theorem c89_70 : qcd 89 70 = some (.ior, 1) := by decide +kernel
theorem c89_71 : qcd 89 71 = some (.istore_n 2, 1) := by decide +kernel
theorem c89_72 : qcd 89 72 = some (.iinc 3 1, 3) := by decide +kernel
theorem c89_75 : qcd 89 75 = some (.goto (-38), 3) := by decide +kernel
theorem c89_78 : qcd 89 78 = some (.iload_n 2, 1) := by decide +kernel
theorem c89_79 : qcd 89 79 = some (.ireturn, 1) := by decide +kernel
theorem c90_0 : qcd 90 0 = some (.iload_n 1, 1) := by decide +kernel
theorem c90_1 : qcd 90 1 = some (.ifCond .lt 14, 3) := by decide +kernel
theorem c90_4 : qcd 90 4 = some (.iload_n 1, 1) := by decide +kernel
theorem c90_5 : qcd 90 5 = some (.aload_n 0, 1) := by decide +kernel
theorem c90_6 : qcd 90 6 = some (.getfield 283, 3) := by decide +kernel
theorem c90_9 : qcd 90 9 = some (.bipush 12, 2) := by decide +kernel
theorem c90_11 : qcd 90 11 = some (.idiv, 1) := by decide +kernel
theorem c90_12 : qcd 90 12 = some (.if_icmp .le 6, 3) := by decide +kernel
theorem c90_15 : qcd 90 15 = some (.bipush (-2), 2) := by decide +kernel
theorem c90_17 : qcd 90 17 = some (.ireturn, 1) := by decide +kernel
theorem c90_18 : qcd 90 18 = some (.aload_n 0, 1) := by decide +kernel
theorem c90_19 : qcd 90 19 = some (.iconst 0, 1) := by decide +kernel
theorem c90_20 : qcd 90 20 = some (.putfield 283, 3) := by decide +kernel
theorem c90_23 : qcd 90 23 = some (.iconst 0, 1) := by decide +kernel
theorem c90_24 : qcd 90 24 = some (.istore_n 2, 1) := by decide +kernel
theorem c90_25 : qcd 90 25 = some (.iload_n 2, 1) := by decide +kernel
theorem c90_26 : qcd 90 26 = some (.aload_n 0, 1) := by decide +kernel
theorem c90_27 : qcd 90 27 = some (.getfield 194, 3) := by decide +kernel
theorem c90_30 : qcd 90 30 = some (.if_icmp .ge 88, 3) := by decide +kernel
theorem c90_33 : qcd 90 33 = some (.iload_n 2, 1) := by decide +kernel
theorem c90_34 : qcd 90 34 = some (.iload_n 1, 1) := by decide +kernel
theorem c90_35 : qcd 90 35 = some (.if_icmp .ne 7, 3) := by decide +kernel
theorem c90_38 : qcd 90 38 = some (.iconst 3, 1) := by decide +kernel
theorem c90_39 : qcd 90 39 = some (.iload_n 1, 1) := by decide +kernel
theorem c90_40 : qcd 90 40 = some (.imul, 1) := by decide +kernel
theorem c90_41 : qcd 90 41 = some (.ireturn, 1) := by decide +kernel
theorem c90_42 : qcd 90 42 = some (.aload_n 0, 1) := by decide +kernel
theorem c90_43 : qcd 90 43 = some (.iconst 3, 1) := by decide +kernel
theorem c90_44 : qcd 90 44 = some (.iload_n 2, 1) := by decide +kernel
theorem c90_45 : qcd 90 45 = some (.imul, 1) := by decide +kernel
theorem c90_46 : qcd 90 46 = some (.invokevirtual 541, 3) := by decide +kernel
theorem c90_49 : qcd 90 49 = some (.iload_n 2, 1) := by decide +kernel
theorem c90_50 : qcd 90 50 = some (.if_icmp .eq 7, 3) := by decide +kernel
theorem c90_53 : qcd 90 53 = some (.iconst 3, 1) := by decide +kernel
theorem c90_54 : qcd 90 54 = some (.iload_n 2, 1) := by decide +kernel
theorem c90_55 : qcd 90 55 = some (.imul, 1) := by decide +kernel
theorem c90_56 : qcd 90 56 = some (.ireturn, 1) := by decide +kernel
theorem c90_57 : qcd 90 57 = some (.aload_n 0, 1) := by decide +kernel
theorem c90_58 : qcd 90 58 = some (.iconst 3, 1) := by decide +kernel
theorem c90_59 : qcd 90 59 = some (.iload_n 2, 1) := by decide +kernel
theorem c90_60 : qcd 90 60 = some (.imul, 1) := by decide +kernel
theorem c90_61 : qcd 90 61 = some (.iconst 1, 1) := by decide +kernel
theorem c90_62 : qcd 90 62 = some (.iadd, 1) := by decide +kernel
theorem c90_63 : qcd 90 63 = some (.invokevirtual 541, 3) := by decide +kernel
theorem c90_66 : qcd 90 66 = some (.aload_n 0, 1) := by decide +kernel
theorem c90_67 : qcd 90 67 = some (.getfield 14, 3) := by decide +kernel
theorem c90_70 : qcd 90 70 = some (.ldc 230, 2) := by decide +kernel
theorem c90_72 : qcd 90 72 = some (.iload_n 2, 1) := by decide +kernel
theorem c90_73 : qcd 90 73 = some (.iadd, 1) := by decide +kernel
theorem c90_74 : qcd 90 74 = some (.iaload, 1) := by decide +kernel
theorem c90_75 : qcd 90 75 = some (.if_icmp .eq 9, 3) := by decide +kernel
theorem c90_78 : qcd 90 78 = some (.iconst 3, 1) := by decide +kernel
theorem c90_79 : qcd 90 79 = some (.iload_n 2, 1) := by decide +kernel
theorem c90_80 : qcd 90 80 = some (.imul, 1) := by decide +kernel
theorem c90_81 : qcd 90 81 = some (.iconst 1, 1) := by decide +kernel
theorem c90_82 : qcd 90 82 = some (.iadd, 1) := by decide +kernel
theorem c90_83 : qcd 90 83 = some (.ireturn, 1) := by decide +kernel
theorem c90_84 : qcd 90 84 = some (.aload_n 0, 1) := by decide +kernel
theorem c90_85 : qcd 90 85 = some (.iconst 3, 1) := by decide +kernel
theorem c90_86 : qcd 90 86 = some (.iload_n 2, 1) := by decide +kernel
theorem c90_87 : qcd 90 87 = some (.imul, 1) := by decide +kernel
theorem c90_88 : qcd 90 88 = some (.iconst 2, 1) := by decide +kernel
theorem c90_89 : qcd 90 89 = some (.iadd, 1) := by decide +kernel
theorem c90_90 : qcd 90 90 = some (.invokevirtual 541, 3) := by decide +kernel
theorem c90_93 : qcd 90 93 = some (.aload_n 0, 1) := by decide +kernel
theorem c90_94 : qcd 90 94 = some (.getfield 14, 3) := by decide +kernel
theorem c90_97 : qcd 90 97 = some (.ldc_w 469, 3) := by decide +kernel
theorem c90_100 : qcd 90 100 = some (.iload_n 2, 1) := by decide +kernel
theorem c90_101 : qcd 90 101 = some (.iadd, 1) := by decide +kernel
theorem c90_102 : qcd 90 102 = some (.iaload, 1) := by decide +kernel
theorem c90_103 : qcd 90 103 = some (.if_icmp .eq 9, 3) := by decide +kernel
theorem c90_106 : qcd 90 106 = some (.iconst 3, 1) := by decide +kernel
theorem c90_107 : qcd 90 107 = some (.iload_n 2, 1) := by decide +kernel
theorem c90_108 : qcd 90 108 = some (.imul, 1) := by decide +kernel
theorem c90_109 : qcd 90 109 = some (.iconst 2, 1) := by decide +kernel
theorem c90_110 : qcd 90 110 = some (.iadd, 1) := by decide +kernel
theorem c90_111 : qcd 90 111 = some (.ireturn, 1) := by decide +kernel
theorem c90_112 : qcd 90 112 = some (.iinc 2 1, 3) := by decide +kernel
theorem c90_115 : qcd 90 115 = some (.goto (-90), 3) := by decide +kernel
theorem c90_118 : qcd 90 118 = some (.iload_n 1, 1) := by decide +kernel
theorem c90_119 : qcd 90 119 = some (.aload_n 0, 1) := by decide +kernel
theorem c90_120 : qcd 90 120 = some (.getfield 194, 3) := by decide +kernel
theorem c90_123 : qcd 90 123 = some (.if_icmp .ne 7, 3) := by decide +kernel
theorem c90_126 : qcd 90 126 = some (.iconst (-1), 1) := by decide +kernel
theorem c90_127 : qcd 90 127 = some (.goto 9, 3) := by decide +kernel
theorem c90_130 : qcd 90 130 = some (.iconst 3, 1) := by decide +kernel
theorem c90_131 : qcd 90 131 = some (.aload_n 0, 1) := by decide +kernel
theorem c90_132 : qcd 90 132 = some (.getfield 194, 3) := by decide +kernel
theorem c90_135 : qcd 90 135 = some (.imul, 1) := by decide +kernel
theorem c90_136 : qcd 90 136 = some (.ireturn, 1) := by decide +kernel
theorem c91_0 : qcd 91 0 = some (.aload_n 0, 1) := by decide +kernel
theorem c91_1 : qcd 91 1 = some (.invokevirtual 315, 3) := by decide +kernel
theorem c91_4 : qcd 91 4 = some (.istore_n 1, 1) := by decide +kernel
theorem c91_5 : qcd 91 5 = some (.iload_n 1, 1) := by decide +kernel
theorem c91_6 : qcd 91 6 = some (.bipush 116, 2) := by decide +kernel
theorem c91_8 : qcd 91 8 = some (.if_icmp .eq 21, 3) := by decide +kernel
theorem c91_11 : qcd 91 11 = some (.iload_n 1, 1) := by decide +kernel
theorem c91_12 : qcd 91 12 = some (.bipush 111, 2) := by decide +kernel
theorem c91_14 : qcd 91 14 = some (.if_icmp .eq 15, 3) := by decide +kernel
theorem c91_17 : qcd 91 17 = some (.aload_n 0, 1) := by decide +kernel
theorem c91_18 : qcd 91 18 = some (.iconst 1, 1) := by decide +kernel
theorem c91_19 : qcd 91 19 = some (.aload_n 0, 1) := by decide +kernel
theorem c91_20 : qcd 91 20 = some (.getfield 290, 3) := by decide +kernel
theorem c91_23 : qcd 91 23 = some (.invokevirtual 312, 3) := by decide +kernel
theorem c91_26 : qcd 91 26 = some (.goto 21, 3) := by decide +kernel
theorem c91_29 : qcd 91 29 = some (.aload_n 0, 1) := by decide +kernel
theorem c91_30 : qcd 91 30 = some (.getfield 329, 3) := by decide +kernel
theorem c91_33 : qcd 91 33 = some (.bipush 12, 2) := by decide +kernel
theorem c91_35 : qcd 91 35 = some (.if_icmp .ne 12, 3) := by decide +kernel
theorem c91_38 : qcd 91 38 = some (.aload_n 0, 1) := by decide +kernel
theorem c91_39 : qcd 91 39 = some (.iconst 4, 1) := by decide +kernel
theorem c91_40 : qcd 91 40 = some (.aload_n 0, 1) := by decide +kernel
theorem c91_41 : qcd 91 41 = some (.getfield 290, 3) := by decide +kernel
theorem c91_44 : qcd 91 44 = some (.invokevirtual 312, 3) := by decide +kernel
theorem c91_47 : qcd 91 47 = some (.aload_n 0, 1) := by decide +kernel
theorem c91_48 : qcd 91 48 = some (.invokevirtual 299, 3) := by decide +kernel
theorem c91_51 : qcd 91 51 = some (.ifCond .ne 4, 3) := by decide +kernel
theorem c91_54 : qcd 91 54 = some (.return_, 1) := by decide +kernel
theorem c91_55 : qcd 91 55 = some (.aload_n 0, 1) := by decide +kernel
theorem c91_56 : qcd 91 56 = some (.getfield 101, 3) := by decide +kernel
theorem c91_59 : qcd 91 59 = some (.aload_n 0, 1) := by decide +kernel
theorem c91_60 : qcd 91 60 = some (.getfield 329, 3) := by decide +kernel
theorem c91_63 : qcd 91 63 = some (.iload_n 1, 1) := by decide +kernel
theorem c91_64 : qcd 91 64 = some (.iastore, 1) := by decide +kernel
theorem c91_65 : qcd 91 65 = some (.aload_n 0, 1) := by decide +kernel
theorem c91_66 : qcd 91 66 = some (.getfield 104, 3) := by decide +kernel
theorem c91_69 : qcd 91 69 = some (.aload_n 0, 1) := by decide +kernel
theorem c91_70 : qcd 91 70 = some (.getfield 329, 3) := by decide +kernel
theorem c91_73 : qcd 91 73 = some (.aload_n 0, 1) := by decide +kernel
theorem c91_74 : qcd 91 74 = some (.getfield 303, 3) := by decide +kernel
theorem c91_77 : qcd 91 77 = some (.iastore, 1) := by decide +kernel
theorem c91_78 : qcd 91 78 = some (.aload_n 0, 1) := by decide +kernel
theorem c91_79 : qcd 91 79 = some (.dup, 1) := by decide +kernel
theorem c91_80 : qcd 91 80 = some (.getfield 290, 3) := by decide +kernel
theorem c91_83 : qcd 91 83 = some (.iconst 1, 1) := by decide +kernel
theorem c91_84 : qcd 91 84 = some (.iadd, 1) := by decide +kernel
theorem c91_85 : qcd 91 85 = some (.putfield 290, 3) := by decide +kernel
theorem c91_88 : qcd 91 88 = some (.aload_n 0, 1) := by decide +kernel
theorem c91_89 : qcd 91 89 = some (.invokevirtual 385, 3) := by decide +kernel
theorem c91_92 : qcd 91 92 = some (.aload_n 0, 1) := by decide +kernel
theorem c91_93 : qcd 91 93 = some (.getfield 107, 3) := by decide +kernel
theorem c91_96 : qcd 91 96 = some (.aload_n 0, 1) := by decide +kernel
theorem c91_97 : qcd 91 97 = some (.getfield 329, 3) := by decide +kernel
theorem c91_100 : qcd 91 100 = some (.aload_n 0, 1) := by decide +kernel
theorem c91_101 : qcd 91 101 = some (.getfield 303, 3) := by decide +kernel
theorem c91_104 : qcd 91 104 = some (.iastore, 1) := by decide +kernel
theorem c91_105 : qcd 91 105 = some (.aload_n 0, 1) := by decide +kernel
theorem c91_106 : qcd 91 106 = some (.dup, 1) := by decide +kernel
theorem c91_107 : qcd 91 107 = some (.getfield 329, 3) := by decide +kernel
theorem c91_110 : qcd 91 110 = some (.iconst 1, 1) := by decide +kernel
theorem c91_111 : qcd 91 111 = some (.iadd, 1) := by decide +kernel
theorem c91_112 : qcd 91 112 = some (.putfield 329, 3) := by decide +kernel
theorem c91_115 : qcd 91 115 = some (.return_, 1) := by decide +kernel
theorem c92_0 : qcd 92 0 = some (.iload_n 1, 1) := by decide +kernel
theorem c92_1 : qcd 92 1 = some (.invokestatic 205, 3) := by decide +kernel
theorem c92_4 : qcd 92 4 = some (.ifCond .eq 30, 3) := by decide +kernel
theorem c92_7 : qcd 92 7 = some (.iload_n 2, 1) := by decide +kernel
theorem c92_8 : qcd 92 8 = some (.i2l, 1) := by decide +kernel
theorem c92_9 : qcd 92 9 = some (.ldc2_w 503, 3) := by decide +kernel
theorem c92_12 : qcd 92 12 = some (.ldc2_w 277, 3) := by decide +kernel
theorem c92_15 : qcd 92 15 = some (.invokestatic 190, 3) := by decide +kernel
theorem c92_18 : qcd 92 18 = some (.ifCond .eq 16, 3) := by decide +kernel
theorem c92_21 : qcd 92 21 = some (.iload_n 3, 1) := by decide +kernel
theorem c92_22 : qcd 92 22 = some (.i2l, 1) := by decide +kernel
theorem c92_23 : qcd 92 23 = some (.iload_n 2, 1) := by decide +kernel
theorem c92_24 : qcd 92 24 = some (.i2l, 1) := by decide +kernel
theorem c92_25 : qcd 92 25 = some (.ldc2_w 277, 3) := by decide +kernel
theorem c92_28 : qcd 92 28 = some (.invokestatic 190, 3) := by decide +kernel
theorem c92_31 : qcd 92 31 = some (.ifCond .ne 5, 3) := by decide +kernel
theorem c92_34 : qcd 92 34 = some (.iconst 0, 1) := by decide +kernel
theorem c92_35 : qcd 92 35 = some (.ireturn, 1) := by decide +kernel
theorem c92_36 : qcd 92 36 = some (.aload_n 0, 1) := by decide +kernel
theorem c92_37 : qcd 92 37 = some (.getfield 158, 3) := by decide +kernel
theorem c92_40 : qcd 92 40 = some (.iload_n 1, 1) := by decide +kernel
theorem c92_41 : qcd 92 41 = some (.iload_n 2, 1) := by decide +kernel
theorem c92_42 : qcd 92 42 = some (.iastore, 1) := by decide +kernel
theorem c92_43 : qcd 92 43 = some (.aload_n 0, 1) := by decide +kernel
theorem c92_44 : qcd 92 44 = some (.getfield 161, 3) := by decide +kernel
theorem c92_47 : qcd 92 47 = some (.iload_n 1, 1) := by decide +kernel
theorem c92_48 : qcd 92 48 = some (.iload_n 3, 1) := by decide +kernel
theorem c92_49 : qcd 92 49 = some (.iastore, 1) := by decide +kernel
theorem c92_50 : qcd 92 50 = some (.iconst 1, 1) := by decide +kernel
theorem c92_51 : qcd 92 51 = some (.ireturn, 1) := by decide +kernel
theorem c93_0 : qcd 93 0 = some (.aload_n 0, 1) := by decide +kernel
theorem c93_1 : qcd 93 1 = some (.getfield 125, 3) := by decide +kernel
theorem c93_4 : qcd 93 4 = some (.aload_n 0, 1) := by decide +kernel
theorem c93_5 : qcd 93 5 = some (.getfield 424, 3) := by decide +kernel
theorem c93_8 : qcd 93 8 = some (.iload_n 1, 1) := by decide +kernel
theorem c93_9 : qcd 93 9 = some (.iastore, 1) := by decide +kernel
theorem c93_10 : qcd 93 10 = some (.aload_n 0, 1) := by decide +kernel
theorem c93_11 : qcd 93 11 = some (.getfield 128, 3) := by decide +kernel
theorem c93_14 : qcd 93 14 = some (.aload_n 0, 1) := by decide +kernel
theorem c93_15 : qcd 93 15 = some (.getfield 424, 3) := by decide +kernel
theorem c93_18 : qcd 93 18 = some (.iload_n 2, 1) := by decide +kernel
theorem c93_19 : qcd 93 19 = some (.iastore, 1) := by decide +kernel
theorem c93_20 : qcd 93 20 = some (.aload_n 0, 1) := by decide +kernel
theorem c93_21 : qcd 93 21 = some (.dup, 1) := by decide +kernel
theorem c93_22 : qcd 93 22 = some (.getfield 424, 3) := by decide +kernel
theorem c93_25 : qcd 93 25 = some (.iconst 1, 1) := by decide +kernel
theorem c93_26 : qcd 93 26 = some (.iadd, 1) := by decide +kernel
theorem c93_27 : qcd 93 27 = some (.putfield 424, 3) := by decide +kernel
theorem c93_30 : qcd 93 30 = some (.return_, 1) := by decide +kernel
theorem c94_0 : qcd 94 0 = some (.aload_n 0, 1) := by decide +kernel
theorem c94_1 : qcd 94 1 = some (.iconst 0, 1) := by decide +kernel
theorem c94_2 : qcd 94 2 = some (.putfield 306, 3) := by decide +kernel
theorem c94_5 : qcd 94 5 = some (.aload_n 0, 1) := by decide +kernel
theorem c94_6 : qcd 94 6 = some (.iconst 0, 1) := by decide +kernel
theorem c94_7 : qcd 94 7 = some (.putfield 309, 3) := by decide +kernel
theorem c94_10 : qcd 94 10 = some (.aload_n 0, 1) := by decide +kernel
theorem c94_11 : qcd 94 11 = some (.iconst 0, 1) := by decide +kernel
theorem c94_12 : qcd 94 12 = some (.putfield 376, 3) := by decide +kernel
theorem c94_15 : qcd 94 15 = some (.aload_n 0, 1) := by decide +kernel
theorem c94_16 : qcd 94 16 = some (.invokevirtual 315, 3) := by decide +kernel
theorem c94_19 : qcd 94 19 = some (.bipush 40, 2) := by decide +kernel
theorem c94_21 : qcd 94 21 = some (.if_icmp .eq 12, 3) := by decide +kernel
theorem c94_24 : qcd 94 24 = some (.aload_n 0, 1) := by decide +kernel
theorem c94_25 : qcd 94 25 = some (.iconst 1, 1) := by decide +kernel
theorem c94_26 : qcd 94 26 = some (.aload_n 0, 1) := by decide +kernel
theorem c94_27 : qcd 94 27 = some (.getfield 290, 3) := by decide +kernel
theorem c94_30 : qcd 94 30 = some (.invokevirtual 312, 3) := by decide +kernel
theorem c94_33 : qcd 94 33 = some (.aload_n 0, 1) := by decide +kernel
theorem c94_34 : qcd 94 34 = some (.invokevirtual 299, 3) := by decide +kernel
theorem c94_37 : qcd 94 37 = some (.ifCond .ne 4, 3) := by decide +kernel
theorem c94_40 : qcd 94 40 = some (.return_, 1) := by decide +kernel
theorem c94_41 : qcd 94 41 = some (.aload_n 0, 1) := by decide +kernel
theorem c94_42 : qcd 94 42 = some (.invokevirtual 344, 3) := by decide +kernel
theorem c94_45 : qcd 94 45 = some (.iconst 1, 1) := by decide +kernel
theorem c94_46 : qcd 94 46 = some (.istore_n 1, 1) := by decide +kernel
theorem c94_47 : qcd 94 47 = some (.aload_n 0, 1) := by decide +kernel
theorem c94_48 : qcd 94 48 = some (.invokevirtual 299, 3) := by decide +kernel
theorem c94_51 : qcd 94 51 = some (.ifCond .eq 33, 3) := by decide +kernel
theorem c94_54 : qcd 94 54 = some (.aload_n 0, 1) := by decide +kernel
theorem c94_55 : qcd 94 55 = some (.getfield 376, 3) := by decide +kernel
theorem c94_58 : qcd 94 58 = some (.ifCond .ne 26, 3) := by decide +kernel
theorem c94_61 : qcd 94 61 = some (.iload_n 1, 1) := by decide +kernel
theorem c94_62 : qcd 94 62 = some (.ifCond .eq 7, 3) := by decide +kernel
theorem c94_65 : qcd 94 65 = some (.aload_n 0, 1) := by decide +kernel
theorem c94_66 : qcd 94 66 = some (.invokevirtual 379, 3) := by decide +kernel
theorem c94_69 : qcd 94 69 = some (.aload_n 0, 1) := by decide +kernel
theorem c94_70 : qcd 94 70 = some (.invokevirtual 299, 3) := by decide +kernel
theorem c94_73 : qcd 94 73 = some (.ifCond .eq (-26), 3) := by decide +kernel
theorem c94_76 : qcd 94 76 = some (.aload_n 0, 1) := by decide +kernel
theorem c94_77 : qcd 94 77 = some (.invokevirtual 382, 3) := by decide +kernel
theorem c94_80 : qcd 94 80 = some (.istore_n 1, 1) := by decide +kernel
theorem c94_81 : qcd 94 81 = some (.goto (-34), 3) := by decide +kernel
theorem c94_84 : qcd 94 84 = some (.return_, 1) := by decide +kernel
theorem c95_0 : qcd 95 0 = some (.iload_n 1, 1) := by decide +kernel
theorem c95_1 : qcd 95 1 = some (.i2l, 1) := by decide +kernel
theorem c95_2 : qcd 95 2 = some (.lconst 0, 1) := by decide +kernel
theorem c95_3 : qcd 95 3 = some (.ldc2_w 228, 3) := by decide +kernel
theorem c95_6 : qcd 95 6 = some (.invokestatic 190, 3) := by decide +kernel
theorem c95_9 : qcd 95 9 = some (.ifCond .ne 5, 3) := by decide +kernel
theorem c95_12 : qcd 95 12 = some (.iconst 0, 1) := by decide +kernel
theorem c95_13 : qcd 95 13 = some (.ireturn, 1) := by decide +kernel
theorem c95_14 : qcd 95 14 = some (.aload_n 0, 1) := by decide +kernel
theorem c95_15 : qcd 95 15 = some (.getfield 14, 3) := by decide +kernel
theorem c95_18 : qcd 95 18 = some (.ldc 185, 2) := by decide +kernel
theorem c95_20 : qcd 95 20 = some (.iload_n 1, 1) := by decide +kernel
theorem c95_21 : qcd 95 21 = some (.iastore, 1) := by decide +kernel
theorem c95_22 : qcd 95 22 = some (.iconst 1, 1) := by decide +kernel
theorem c95_23 : qcd 95 23 = some (.ireturn, 1) := by decide +kernel
theorem c96_0 : qcd 96 0 = some (.iconst 0, 1) := by decide +kernel
theorem c96_1 : qcd 96 1 = some (.istore_n 3, 1) := by decide +kernel
theorem c96_2 : qcd 96 2 = some (.iload_n 3, 1) := by decide +kernel
theorem c96_3 : qcd 96 3 = some (.bipush 72, 2) := by decide +kernel
theorem c96_5 : qcd 96 5 = some (.if_icmp .ge 25, 3) := by decide +kernel
theorem c96_8 : qcd 96 8 = some (.aload_n 0, 1) := by decide +kernel
theorem c96_9 : qcd 96 9 = some (.getfield 14, 3) := by decide +kernel
theorem c96_12 : qcd 96 12 = some (.iload_n 2, 1) := by decide +kernel
theorem c96_13 : qcd 96 13 = some (.iload_n 3, 1) := by decide +kernel
theorem c96_14 : qcd 96 14 = some (.iadd, 1) := by decide +kernel
theorem c96_15 : qcd 96 15 = some (.aload_n 0, 1) := by decide +kernel
theorem c96_16 : qcd 96 16 = some (.getfield 14, 3) := by decide +kernel
theorem c96_19 : qcd 96 19 = some (.iload_n 1, 1) := by decide +kernel
theorem c96_20 : qcd 96 20 = some (.iload_n 3, 1) := by decide +kernel
theorem c96_21 : qcd 96 21 = some (.iadd, 1) := by decide +kernel
theorem c96_22 : qcd 96 22 = some (.iaload, 1) := by decide +kernel
theorem c96_23 : qcd 96 23 = some (.iastore, 1) := by decide +kernel
theorem c96_24 : qcd 96 24 = some (.iinc 3 1, 3) := by decide +kernel
theorem c96_27 : qcd 96 27 = some (.goto (-25), 3) := by decide +kernel
theorem c96_30 : qcd 96 30 = some (.return_, 1) := by decide +kernel
theorem c97_0 : qcd 97 0 = some (.aload_n 0, 1) := by decide +kernel
theorem c97_1 : qcd 97 1 = some (.iload_n 1, 1) := by decide +kernel
theorem c97_2 : qcd 97 2 = some (.invokevirtual 224, 3) := by decide +kernel
theorem c97_5 : qcd 97 5 = some (.ifCond .eq 15, 3) := by decide +kernel
theorem c97_8 : qcd 97 8 = some (.iload_n 2, 1) := by decide +kernel
theorem c97_9 : qcd 97 9 = some (.i2l, 1) := by decide +kernel
theorem c97_10 : qcd 97 10 = some (.lconst 1, 1) := by decide +kernel
theorem c97_11 : qcd 97 11 = some (.ldc2_w 228, 3) := by decide +kernel
theorem c97_14 : qcd 97 14 = some (.invokestatic 190, 3) := by decide +kernel
theorem c97_17 : qcd 97 17 = some (.ifCond .ne 5, 3) := by decide +kernel
theorem c97_20 : qcd 97 20 = some (.iconst 0, 1) := by decide +kernel
theorem c97_21 : qcd 97 21 = some (.ireturn, 1) := by decide +kernel
theorem c97_22 : qcd 97 22 = some (.aload_n 0, 1) := by decide +kernel
theorem c97_23 : qcd 97 23 = some (.getfield 39, 3) := by decide +kernel
theorem c97_26 : qcd 97 26 = some (.iload_n 1, 1) := by decide +kernel
theorem c97_27 : qcd 97 27 = some (.iload_n 2, 1) := by decide +kernel
theorem c97_28 : qcd 97 28 = some (.iastore, 1) := by decide +kernel
theorem c97_29 : qcd 97 29 = some (.iconst 1, 1) := by decide +kernel
theorem c97_30 : qcd 97 30 = some (.ireturn, 1) := by decide +kernel
theorem c98_0 : qcd 98 0 = some (.iload_n 1, 1) := by decide +kernel
theorem c98_1 : qcd 98 1 = some (.i2l, 1) := by decide +kernel
theorem c98_2 : qcd 98 2 = some (.ldc2_w 544, 3) := by decide +kernel
theorem c98_5 : qcd 98 5 = some (.bipush 19, 2) := by decide +kernel
theorem c98_7 : qcd 98 7 = some (.aload_n 0, 1) := by decide +kernel
theorem c98_8 : qcd 98 8 = some (.getfield 194, 3) := by decide +kernel
theorem c98_11 : qcd 98 11 = some (.iadd, 1) := by decide +kernel
theorem c98_12 : qcd 98 12 = some (.i2l, 1) := by decide +kernel
theorem c98_13 : qcd 98 13 = some (.invokestatic 190, 3) := by decide +kernel
theorem c98_16 : qcd 98 16 = some (.ifCond .eq 13, 3) := by decide +kernel
theorem c98_19 : qcd 98 19 = some (.aload_n 0, 1) := by decide +kernel
theorem c98_20 : qcd 98 20 = some (.getfield 39, 3) := by decide +kernel
theorem c98_23 : qcd 98 23 = some (.iload_n 1, 1) := by decide +kernel
theorem c98_24 : qcd 98 24 = some (.bipush 20, 2) := by decide +kernel
theorem c98_26 : qcd 98 26 = some (.isub, 1) := by decide +kernel
theorem c98_27 : qcd 98 27 = some (.iaload, 1) := by decide +kernel
theorem c98_28 : qcd 98 28 = some (.ireturn, 1) := by decide +kernel
theorem c98_29 : qcd 98 29 = some (.iload_n 1, 1) := by decide +kernel
theorem c98_30 : qcd 98 30 = some (.tableswitch 119 0 10 #[58, 63, 68, 73, 78, 83, 88, 93, 98, 103, 111], 58) := by decide +kernel
theorem c98_88 : qcd 98 88 = some (.aload_n 0, 1) := by decide +kernel
theorem c98_89 : qcd 98 89 = some (.getfield 202, 3) := by decide +kernel
theorem c98_92 : qcd 98 92 = some (.ireturn, 1) := by decide +kernel
theorem c98_93 : qcd 98 93 = some (.aload_n 0, 1) := by decide +kernel
theorem c98_94 : qcd 98 94 = some (.getfield 186, 3) := by decide +kernel
theorem c98_97 : qcd 98 97 = some (.ireturn, 1) := by decide +kernel
theorem c98_98 : qcd 98 98 = some (.aload_n 0, 1) := by decide +kernel
theorem c98_99 : qcd 98 99 = some (.getfield 194, 3) := by decide +kernel
theorem c98_102 : qcd 98 102 = some (.ireturn, 1) := by decide +kernel
theorem c98_103 : qcd 98 103 = some (.aload_n 0, 1) := by decide +kernel
theorem c98_104 : qcd 98 104 = some (.getfield 197, 3) := by decide +kernel
theorem c98_107 : qcd 98 107 = some (.ireturn, 1) := by decide +kernel
theorem c98_108 : qcd 98 108 = some (.aload_n 0, 1) := by decide +kernel
theorem c98_109 : qcd 98 109 = some (.getfield 461, 3) := by decide +kernel
theorem c98_112 : qcd 98 112 = some (.ireturn, 1) := by decide +kernel
theorem c98_113 : qcd 98 113 = some (.aload_n 0, 1) := by decide +kernel
theorem c98_114 : qcd 98 114 = some (.getfield 393, 3) := by decide +kernel
theorem c98_117 : qcd 98 117 = some (.ireturn, 1) := by decide +kernel
theorem c98_118 : qcd 98 118 = some (.aload_n 0, 1) := by decide +kernel
theorem c98_119 : qcd 98 119 = some (.getfield 505, 3) := by decide +kernel
theorem c98_122 : qcd 98 122 = some (.ireturn, 1) := by decide +kernel
theorem c98_123 : qcd 98 123 = some (.aload_n 0, 1) := by decide +kernel
theorem c98_124 : qcd 98 124 = some (.getfield 510, 3) := by decide +kernel
theorem c98_127 : qcd 98 127 = some (.ireturn, 1) := by decide +kernel
theorem c98_128 : qcd 98 128 = some (.aload_n 0, 1) := by decide +kernel
theorem c98_129 : qcd 98 129 = some (.getfield 283, 3) := by decide +kernel
theorem c98_132 : qcd 98 132 = some (.ireturn, 1) := by decide +kernel
theorem c98_133 : qcd 98 133 = some (.aload_n 0, 1) := by decide +kernel
theorem c98_134 : qcd 98 134 = some (.getfield 14, 3) := by decide +kernel
theorem c98_137 : qcd 98 137 = some (.ldc 185, 2) := by decide +kernel
theorem c98_139 : qcd 98 139 = some (.iaload, 1) := by decide +kernel
theorem c98_140 : qcd 98 140 = some (.ireturn, 1) := by decide +kernel
theorem c98_141 : qcd 98 141 = some (.aload_n 0, 1) := by decide +kernel
theorem c98_142 : qcd 98 142 = some (.ldc 230, 2) := by decide +kernel
theorem c98_144 : qcd 98 144 = some (.invokevirtual 405, 3) := by decide +kernel
theorem c98_147 : qcd 98 147 = some (.l2i, 1) := by decide +kernel
theorem c98_148 : qcd 98 148 = some (.ireturn, 1) := by decide +kernel
theorem c98_149 : qcd 98 149 = some (.iconst (-1), 1) := by decide +kernel
theorem c98_150 : qcd 98 150 = some (.ireturn, 1) := by decide +kernel
theorem c99_0 : qcd 99 0 = some (.iload_n 1, 1) := by decide +kernel
theorem c99_1 : qcd 99 1 = some (.i2l, 1) := by decide +kernel
theorem c99_2 : qcd 99 2 = some (.lconst 0, 1) := by decide +kernel
theorem c99_3 : qcd 99 3 = some (.ldc2_w 536, 3) := by decide +kernel
theorem c99_6 : qcd 99 6 = some (.invokestatic 190, 3) := by decide +kernel
theorem c99_9 : qcd 99 9 = some (.ifCond .eq 20, 3) := by decide +kernel
theorem c99_12 : qcd 99 12 = some (.iload_n 2, 1) := by decide +kernel
theorem c99_13 : qcd 99 13 = some (.invokestatic 493, 3) := by decide +kernel
theorem c99_16 : qcd 99 16 = some (.ifCond .eq 13, 3) := by decide +kernel
theorem c99_19 : qcd 99 19 = some (.iload_n 3, 1) := by decide +kernel
theorem c99_20 : qcd 99 20 = some (.i2l, 1) := by decide +kernel
theorem c99_21 : qcd 99 21 = some (.lconst 0, 1) := by decide +kernel
theorem c99_22 : qcd 99 22 = some (.lconst 1, 1) := by decide +kernel
theorem c99_23 : qcd 99 23 = some (.invokestatic 190, 3) := by decide +kernel
theorem c99_26 : qcd 99 26 = some (.ifCond .ne 5, 3) := by decide +kernel
theorem c99_29 : qcd 99 29 = some (.iconst (-1), 1) := by decide +kernel
theorem c99_30 : qcd 99 30 = some (.ireturn, 1) := by decide +kernel
theorem c99_31 : qcd 99 31 = some (.iconst 0, 1) := by decide +kernel
theorem c99_32 : qcd 99 32 = some (.istore 4, 2) := by decide +kernel
theorem c99_34 : qcd 99 34 = some (.iconst 0, 1) := by decide +kernel
theorem c99_35 : qcd 99 35 = some (.istore 5, 2) := by decide +kernel
theorem c99_37 : qcd 99 37 = some (.iload 5, 2) := by decide +kernel
theorem c99_39 : qcd 99 39 = some (.aload_n 0, 1) := by decide +kernel
theorem c99_40 : qcd 99 40 = some (.getfield 194, 3) := by decide +kernel
theorem c99_43 : qcd 99 43 = some (.if_icmp .ge 57, 3) := by decide +kernel
theorem c99_46 : qcd 99 46 = some (.iload 4, 2) := by decide +kernel
theorem c99_48 : qcd 99 48 = some (.bipush 8, 2) := by decide +kernel
theorem c99_50 : qcd 99 50 = some (.if_icmp .ge 50, 3) := by decide +kernel
theorem c99_53 : qcd 99 53 = some (.aload_n 0, 1) := by decide +kernel
theorem c99_54 : qcd 99 54 = some (.getfield 14, 3) := by decide +kernel
theorem c99_57 : qcd 99 57 = some (.ldc 230, 2) := by decide +kernel
theorem c99_59 : qcd 99 59 = some (.iload 5, 2) := by decide +kernel
theorem c99_61 : qcd 99 61 = some (.iadd, 1) := by decide +kernel
theorem c99_62 : qcd 99 62 = some (.iaload, 1) := by decide +kernel
theorem c99_63 : qcd 99 63 = some (.ifCond .ne 31, 3) := by decide +kernel
theorem c99_66 : qcd 99 66 = some (.aload_n 0, 1) := by decide +kernel
theorem c99_67 : qcd 99 67 = some (.getfield 14, 3) := by decide +kernel
theorem c99_70 : qcd 99 70 = some (.ldc 227, 2) := by decide +kernel
theorem c99_72 : qcd 99 72 = some (.iload 5, 2) := by decide +kernel
theorem c99_74 : qcd 99 74 = some (.iadd, 1) := by decide +kernel
theorem c99_75 : qcd 99 75 = some (.iaload, 1) := by decide +kernel
theorem c99_76 : qcd 99 76 = some (.ifCond .ne 6, 3) := by decide +kernel
theorem c99_79 : qcd 99 79 = some (.goto 15, 3) := by decide +kernel
theorem c99_82 : qcd 99 82 = some (.aload_n 0, 1) := by decide +kernel
theorem c99_83 : qcd 99 83 = some (.getfield 182, 3) := by decide +kernel
theorem c99_86 : qcd 99 86 = some (.iload 4, 2) := by decide +kernel
theorem c99_88 : qcd 99 88 = some (.iload 5, 2) := by decide +kernel
theorem c99_90 : qcd 99 90 = some (.iastore, 1) := by decide +kernel
theorem c99_91 : qcd 99 91 = some (.iinc 4 1, 3) := by decide +kernel
theorem c99_94 : qcd 99 94 = some (.iinc 5 1, 3) := by decide +kernel
theorem c99_97 : qcd 99 97 = some (.goto (-60), 3) := by decide +kernel
theorem c99_100 : qcd 99 100 = some (.iconst (-1), 1) := by decide +kernel
theorem c99_101 : qcd 99 101 = some (.istore 5, 2) := by decide +kernel
theorem c99_103 : qcd 99 103 = some (.iconst 0, 1) := by decide +kernel
theorem c99_104 : qcd 99 104 = some (.istore 6, 2) := by decide +kernel
theorem c99_106 : qcd 99 106 = some (.lconst 0, 1) := by decide +kernel
theorem c99_107 : qcd 99 107 = some (.lstore 7, 2) := by decide +kernel
theorem c99_109 : qcd 99 109 = some (.iconst 0, 1) := by decide +kernel
theorem c99_110 : qcd 99 110 = some (.istore 9, 2) := by decide +kernel
theorem c99_112 : qcd 99 112 = some (.iload 9, 2) := by decide +kernel
theorem c99_114 : qcd 99 114 = some (.iconst 1, 1) := by decide +kernel
theorem c99_115 : qcd 99 115 = some (.iload 4, 2) := by decide +kernel
theorem c99_117 : qcd 99 117 = some (.ishl, 1) := by decide +kernel
theorem c99_118 : qcd 99 118 = some (.if_icmp .ge 137, 3) := by decide +kernel
theorem c99_121 : qcd 99 121 = some (.iconst 0, 1) := by decide +kernel
theorem c99_122 : qcd 99 122 = some (.istore 10, 2) := by decide +kernel
theorem c99_124 : qcd 99 124 = some (.iconst 0, 1) := by decide +kernel
theorem c99_125 : qcd 99 125 = some (.istore 11, 2) := by decide +kernel
theorem c99_127 : qcd 99 127 = some (.iconst 0, 1) := by decide +kernel
theorem c99_128 : qcd 99 128 = some (.istore 12, 2) := by decide +kernel
theorem c99_130 : qcd 99 130 = some (.iload 12, 2) := by decide +kernel
theorem c99_132 : qcd 99 132 = some (.iload 4, 2) := by decide +kernel
theorem c99_134 : qcd 99 134 = some (.if_icmp .ge 53, 3) := by decide +kernel
theorem c99_137 : qcd 99 137 = some (.iload 9, 2) := by decide +kernel
theorem c99_139 : qcd 99 139 = some (.iload 12, 2) := by decide +kernel
theorem c99_141 : qcd 99 141 = some (.invokestatic 248, 3) := by decide +kernel
theorem c99_144 : qcd 99 144 = some (.ifCond .ne 6, 3) := by decide +kernel
theorem c99_147 : qcd 99 147 = some (.goto 34, 3) := by decide +kernel
theorem c99_150 : qcd 99 150 = some (.iload 10, 2) := by decide +kernel
theorem c99_152 : qcd 99 152 = some (.iconst 1, 1) := by decide +kernel
theorem c99_153 : qcd 99 153 = some (.aload_n 0, 1) := by decide +kernel
theorem c99_154 : qcd 99 154 = some (.getfield 182, 3) := by decide +kernel
theorem c99_157 : qcd 99 157 = some (.iload 12, 2) := by decide +kernel
theorem c99_159 : qcd 99 159 = some (.iaload, 1) := by decide +kernel
theorem c99_160 : qcd 99 160 = some (.ishl, 1) := by decide +kernel
theorem c99_161 : qcd 99 161 = some (.ior, 1) := by decide +kernel
theorem c99_162 : qcd 99 162 = some (.istore 10, 2) := by decide +kernel
theorem c99_164 : qcd 99 164 = some (.iload 11, 2) := by decide +kernel
theorem c99_166 : qcd 99 166 = some (.aload_n 0, 1) := by decide +kernel
theorem c99_167 : qcd 99 167 = some (.getfield 39, 3) := by decide +kernel
theorem c99_170 : qcd 99 170 = some (.aload_n 0, 1) := by decide +kernel
theorem c99_171 : qcd 99 171 = some (.getfield 182, 3) := by decide +kernel
theorem c99_174 : qcd 99 174 = some (.iload 12, 2) := by decide +kernel
theorem c99_176 : qcd 99 176 = some (.iaload, 1) := by decide +kernel
theorem c99_177 : qcd 99 177 = some (.iaload, 1) := by decide +kernel
theorem c99_178 : qcd 99 178 = some (.iadd, 1) := by decide +kernel
theorem c99_179 : qcd 99 179 = some (.istore 11, 2) := by decide +kernel
theorem c99_181 : qcd 99 181 = some (.iinc 12 1, 3) := by decide +kernel
theorem c99_184 : qcd 99 184 = some (.goto (-54), 3) := by decide +kernel
theorem c99_187 : qcd 99 187 = some (.iload 11, 2) := by decide +kernel
theorem c99_189 : qcd 99 189 = some (.iload_n 1, 1) := by decide +kernel
theorem c99_190 : qcd 99 190 = some (.if_icmp .le 6, 3) := by decide +kernel
theorem c99_193 : qcd 99 193 = some (.goto 56, 3) := by decide +kernel
theorem c99_196 : qcd 99 196 = some (.aload_n 0, 1) := by decide +kernel
theorem c99_197 : qcd 99 197 = some (.iload 10, 2) := by decide +kernel
theorem c99_199 : qcd 99 199 = some (.iload_n 2, 1) := by decide +kernel
theorem c99_200 : qcd 99 200 = some (.invokevirtual 538, 3) := by decide +kernel
theorem c99_203 : qcd 99 203 = some (.lstore 12, 2) := by decide +kernel
theorem c99_205 : qcd 99 205 = some (.iload 5, 2) := by decide +kernel
theorem c99_207 : qcd 99 207 = some (.iconst (-1), 1) := by decide +kernel
theorem c99_208 : qcd 99 208 = some (.if_icmp .eq 29, 3) := by decide +kernel
theorem c99_211 : qcd 99 211 = some (.lload 12, 2) := by decide +kernel
theorem c99_213 : qcd 99 213 = some (.lload 7, 2) := by decide +kernel
theorem c99_215 : qcd 99 215 = some (.lcmp, 1) := by decide +kernel
theorem c99_216 : qcd 99 216 = some (.ifCond .gt 33, 3) := by decide +kernel
theorem c99_219 : qcd 99 219 = some (.lload 12, 2) := by decide +kernel
theorem c99_221 : qcd 99 221 = some (.lload 7, 2) := by decide +kernel
theorem c99_223 : qcd 99 223 = some (.lcmp, 1) := by decide +kernel
theorem c99_224 : qcd 99 224 = some (.ifCond .ne 13, 3) := by decide +kernel
theorem c99_227 : qcd 99 227 = some (.iload 11, 2) := by decide +kernel
theorem c99_229 : qcd 99 229 = some (.iload 6, 2) := by decide +kernel
theorem c99_231 : qcd 99 231 = some (.if_icmp .lt 6, 3) := by decide +kernel
theorem c99_234 : qcd 99 234 = some (.goto 15, 3) := by decide +kernel
theorem c99_237 : qcd 99 237 = some (.iload 10, 2) := by decide +kernel
theorem c99_239 : qcd 99 239 = some (.istore 5, 2) := by decide +kernel
theorem c99_241 : qcd 99 241 = some (.iload 11, 2) := by decide +kernel
theorem c99_243 : qcd 99 243 = some (.istore 6, 2) := by decide +kernel
theorem c99_245 : qcd 99 245 = some (.lload 12, 2) := by decide +kernel
theorem c99_247 : qcd 99 247 = some (.lstore 7, 2) := by decide +kernel
theorem c99_249 : qcd 99 249 = some (.iinc 9 1, 3) := by decide +kernel
theorem c99_252 : qcd 99 252 = some (.goto (-140), 3) := by decide +kernel
theorem c99_255 : qcd 99 255 = some (.iload_n 3, 1) := by decide +kernel
theorem c99_256 : qcd 99 256 = some (.ifCond .ne 8, 3) := by decide +kernel
theorem c99_259 : qcd 99 259 = some (.iload 5, 2) := by decide +kernel
theorem c99_261 : qcd 99 261 = some (.goto 6, 3) := by decide +kernel
theorem c99_264 : qcd 99 264 = some (.lload 7, 2) := by decide +kernel
theorem c99_266 : qcd 99 266 = some (.l2i, 1) := by decide +kernel
theorem c99_267 : qcd 99 267 = some (.ireturn, 1) := by decide +kernel
theorem c100_0 : qcd 100 0 = some (.iconst 0, 1) := by decide +kernel
theorem c100_1 : qcd 100 1 = some (.istore_n 2, 1) := by decide +kernel
theorem c100_2 : qcd 100 2 = some (.iconst 0, 1) := by decide +kernel
theorem c100_3 : qcd 100 3 = some (.istore_n 3, 1) := by decide +kernel
theorem c100_4 : qcd 100 4 = some (.iconst 0, 1) := by decide +kernel
theorem c100_5 : qcd 100 5 = some (.istore 4, 2) := by decide +kernel
theorem c100_7 : qcd 100 7 = some (.iload 4, 2) := by decide +kernel
theorem c100_9 : qcd 100 9 = some (.aload_n 0, 1) := by decide +kernel
theorem c100_10 : qcd 100 10 = some (.getfield 197, 3) := by decide +kernel
theorem c100_13 : qcd 100 13 = some (.if_icmp .ge 48, 3) := by decide +kernel
theorem c100_16 : qcd 100 16 = some (.iload_n 1, 1) := by decide +kernel
theorem c100_17 : qcd 100 17 = some (.iload 4, 2) := by decide +kernel
theorem c100_19 : qcd 100 19 = some (.invokestatic 248, 3) := by decide +kernel
theorem c100_22 : qcd 100 22 = some (.ifCond .ne 6, 3) := by decide +kernel
theorem c100_25 : qcd 100 25 = some (.goto 30, 3) := by decide +kernel
theorem c100_28 : qcd 100 28 = some (.iload_n 2, 1) := by decide +kernel
theorem c100_29 : qcd 100 29 = some (.aload_n 0, 1) := by decide +kernel
theorem c100_30 : qcd 100 30 = some (.getfield 45, 3) := by decide +kernel
theorem c100_33 : qcd 100 33 = some (.iload 4, 2) := by decide +kernel
theorem c100_35 : qcd 100 35 = some (.iaload, 1) := by decide +kernel
theorem c100_36 : qcd 100 36 = some (.iadd, 1) := by decide +kernel
theorem c100_37 : qcd 100 37 = some (.istore_n 2, 1) := by decide +kernel
theorem c100_38 : qcd 100 38 = some (.iload_n 3, 1) := by decide +kernel
theorem c100_39 : qcd 100 39 = some (.iconst 1, 1) := by decide +kernel
theorem c100_40 : qcd 100 40 = some (.aload_n 0, 1) := by decide +kernel
theorem c100_41 : qcd 100 41 = some (.getfield 58, 3) := by decide +kernel
theorem c100_44 : qcd 100 44 = some (.aload_n 0, 1) := by decide +kernel
theorem c100_45 : qcd 100 45 = some (.getfield 42, 3) := by decide +kernel
theorem c100_48 : qcd 100 48 = some (.iload 4, 2) := by decide +kernel
theorem c100_50 : qcd 100 50 = some (.iaload, 1) := by decide +kernel
theorem c100_51 : qcd 100 51 = some (.iaload, 1) := by decide +kernel
theorem c100_52 : qcd 100 52 = some (.ishl, 1) := by decide +kernel
theorem c100_53 : qcd 100 53 = some (.ior, 1) := by decide +kernel
theorem c100_54 : qcd 100 54 = some (.istore_n 3, 1) := by decide +kernel
theorem c100_55 : qcd 100 55 = some (.iinc 4 1, 3) := by decide +kernel
theorem c100_58 : qcd 100 58 = some (.goto (-51), 3) := by decide +kernel
theorem c100_61 : qcd 100 61 = some (.iconst 0, 1) := by decide +kernel
theorem c100_62 : qcd 100 62 = some (.istore 4, 2) := by decide +kernel
theorem c100_64 : qcd 100 64 = some (.iconst 0, 1) := by decide +kernel
theorem c100_65 : qcd 100 65 = some (.istore 5, 2) := by decide +kernel
theorem c100_67 : qcd 100 67 = some (.iconst 0, 1) := by decide +kernel
theorem c100_68 : qcd 100 68 = some (.istore 6, 2) := by decide +kernel
theorem c100_70 : qcd 100 70 = some (.iconst 0, 1) := by decide +kernel
theorem c100_71 : qcd 100 71 = some (.istore 7, 2) := by decide +kernel
theorem c100_73 : qcd 100 73 = some (.iload 7, 2) := by decide +kernel
theorem c100_75 : qcd 100 75 = some (.aload_n 0, 1) := by decide +kernel
theorem c100_76 : qcd 100 76 = some (.getfield 186, 3) := by decide +kernel
theorem c100_79 : qcd 100 79 = some (.if_icmp .ge 128, 3) := by decide +kernel
theorem c100_82 : qcd 100 82 = some (.iconst (-1), 1) := by decide +kernel
theorem c100_83 : qcd 100 83 = some (.istore 8, 2) := by decide +kernel
theorem c100_85 : qcd 100 85 = some (.iconst 0, 1) := by decide +kernel
theorem c100_86 : qcd 100 86 = some (.istore 9, 2) := by decide +kernel
theorem c100_88 : qcd 100 88 = some (.iload 9, 2) := by decide +kernel
theorem c100_90 : qcd 100 90 = some (.aload_n 0, 1) := by decide +kernel
theorem c100_91 : qcd 100 91 = some (.getfield 186, 3) := by decide +kernel
theorem c100_94 : qcd 100 94 = some (.if_icmp .ge 46, 3) := by decide +kernel
theorem c100_97 : qcd 100 97 = some (.iload 6, 2) := by decide +kernel
theorem c100_99 : qcd 100 99 = some (.iload 9, 2) := by decide +kernel
theorem c100_101 : qcd 100 101 = some (.invokestatic 248, 3) := by decide +kernel
theorem c100_104 : qcd 100 104 = some (.ifCond .ne 30, 3) := by decide +kernel
theorem c100_107 : qcd 100 107 = some (.iload 8, 2) := by decide +kernel
theorem c100_109 : qcd 100 109 = some (.iconst (-1), 1) := by decide +kernel
theorem c100_110 : qcd 100 110 = some (.if_icmp .eq 20, 3) := by decide +kernel
theorem c100_113 : qcd 100 113 = some (.aload_n 0, 1) := by decide +kernel
theorem c100_114 : qcd 100 114 = some (.getfield 21, 3) := by decide +kernel
theorem c100_117 : qcd 100 117 = some (.iload 9, 2) := by decide +kernel
theorem c100_119 : qcd 100 119 = some (.iaload, 1) := by decide +kernel
theorem c100_120 : qcd 100 120 = some (.aload_n 0, 1) := by decide +kernel
theorem c100_121 : qcd 100 121 = some (.getfield 21, 3) := by decide +kernel
theorem c100_124 : qcd 100 124 = some (.iload 8, 2) := by decide +kernel
theorem c100_126 : qcd 100 126 = some (.iaload, 1) := by decide +kernel
theorem c100_127 : qcd 100 127 = some (.if_icmp .le 7, 3) := by decide +kernel
theorem c100_130 : qcd 100 130 = some (.iload 9, 2) := by decide +kernel
theorem c100_132 : qcd 100 132 = some (.istore 8, 2) := by decide +kernel
theorem c100_134 : qcd 100 134 = some (.iinc 9 1, 3) := by decide +kernel
theorem c100_137 : qcd 100 137 = some (.goto (-49), 3) := by decide +kernel
theorem c100_140 : qcd 100 140 = some (.iload 6, 2) := by decide +kernel
theorem c100_142 : qcd 100 142 = some (.iconst 1, 1) := by decide +kernel
theorem c100_143 : qcd 100 143 = some (.iload 8, 2) := by decide +kernel
theorem c100_145 : qcd 100 145 = some (.ishl, 1) := by decide +kernel
theorem c100_146 : qcd 100 146 = some (.ior, 1) := by decide +kernel
theorem c100_147 : qcd 100 147 = some (.istore 6, 2) := by decide +kernel
theorem c100_149 : qcd 100 149 = some (.aload_n 0, 1) := by decide +kernel
theorem c100_150 : qcd 100 150 = some (.getfield 14, 3) := by decide +kernel
theorem c100_153 : qcd 100 153 = some (.ldc 213, 2) := by decide +kernel
theorem c100_155 : qcd 100 155 = some (.iload 8, 2) := by decide +kernel
theorem c100_157 : qcd 100 157 = some (.iadd, 1) := by decide +kernel
theorem c100_158 : qcd 100 158 = some (.iaload, 1) := by decide +kernel
theorem c100_159 : qcd 100 159 = some (.istore 9, 2) := by decide +kernel
theorem c100_161 : qcd 100 161 = some (.iload_n 3, 1) := by decide +kernel
theorem c100_162 : qcd 100 162 = some (.aload_n 0, 1) := by decide +kernel
theorem c100_163 : qcd 100 163 = some (.getfield 58, 3) := by decide +kernel
theorem c100_166 : qcd 100 166 = some (.iload 8, 2) := by decide +kernel
theorem c100_168 : qcd 100 168 = some (.iaload, 1) := by decide +kernel
theorem c100_169 : qcd 100 169 = some (.invokestatic 248, 3) := by decide +kernel
theorem c100_172 : qcd 100 172 = some (.ifCond .eq 22, 3) := by decide +kernel
theorem c100_175 : qcd 100 175 = some (.iload 5, 2) := by decide +kernel
theorem c100_177 : qcd 100 177 = some (.iload 9, 2) := by decide +kernel
theorem c100_179 : qcd 100 179 = some (.iadd, 1) := by decide +kernel
theorem c100_180 : qcd 100 180 = some (.iload_n 2, 1) := by decide +kernel
theorem c100_181 : qcd 100 181 = some (.if_icmp .gt 13, 3) := by decide +kernel
theorem c100_184 : qcd 100 184 = some (.iload 5, 2) := by decide +kernel
theorem c100_186 : qcd 100 186 = some (.iload 9, 2) := by decide +kernel
theorem c100_188 : qcd 100 188 = some (.iadd, 1) := by decide +kernel
theorem c100_189 : qcd 100 189 = some (.istore 5, 2) := by decide +kernel
theorem c100_191 : qcd 100 191 = some (.goto 10, 3) := by decide +kernel
theorem c100_194 : qcd 100 194 = some (.iload 4, 2) := by decide +kernel
theorem c100_196 : qcd 100 196 = some (.iload 9, 2) := by decide +kernel
theorem c100_198 : qcd 100 198 = some (.iadd, 1) := by decide +kernel
theorem c100_199 : qcd 100 199 = some (.istore 4, 2) := by decide +kernel
theorem c100_201 : qcd 100 201 = some (.iinc 7 1, 3) := by decide +kernel
theorem c100_204 : qcd 100 204 = some (.goto (-131), 3) := by decide +kernel
theorem c100_207 : qcd 100 207 = some (.iload 4, 2) := by decide +kernel
theorem c100_209 : qcd 100 209 = some (.ireturn, 1) := by decide +kernel
theorem c101_0 : qcd 101 0 = some (.aload_n 0, 1) := by decide +kernel
theorem c101_1 : qcd 101 1 = some (.getfield 179, 3) := by decide +kernel
theorem c101_4 : qcd 101 4 = some (.iload_n 1, 1) := by decide +kernel
theorem c101_5 : qcd 101 5 = some (.iconst 1, 1) := by decide +kernel
theorem c101_6 : qcd 101 6 = some (.iload_n 2, 1) := by decide +kernel
theorem c101_7 : qcd 101 7 = some (.ishl, 1) := by decide +kernel
theorem c101_8 : qcd 101 8 = some (.ior, 1) := by decide +kernel
theorem c101_9 : qcd 101 9 = some (.laload, 1) := by decide +kernel
theorem c101_10 : qcd 101 10 = some (.lstore_n 3, 1) := by decide +kernel
theorem c101_11 : qcd 101 11 = some (.lload_n 3, 1) := by decide +kernel
theorem c101_12 : qcd 101 12 = some (.lconst 0, 1) := by decide +kernel
theorem c101_13 : qcd 101 13 = some (.lcmp, 1) := by decide +kernel
theorem c101_14 : qcd 101 14 = some (.ifCond .lt 12, 3) := by decide +kernel
theorem c101_17 : qcd 101 17 = some (.aload_n 0, 1) := by decide +kernel
theorem c101_18 : qcd 101 18 = some (.iload_n 2, 1) := by decide +kernel
theorem c101_19 : qcd 101 19 = some (.iload_n 1, 1) := by decide +kernel
theorem c101_20 : qcd 101 20 = some (.invokevirtual 524, 3) := by decide +kernel
theorem c101_23 : qcd 101 23 = some (.ifCond .ne 9, 3) := by decide +kernel
theorem c101_26 : qcd 101 26 = some (.ldc2_w 482, 3) := by decide +kernel
theorem c101_29 : qcd 101 29 = some (.goto 19, 3) := by decide +kernel
theorem c101_32 : qcd 101 32 = some (.lload_n 3, 1) := by decide +kernel
theorem c101_33 : qcd 101 33 = some (.aload_n 0, 1) := by decide +kernel
theorem c101_34 : qcd 101 34 = some (.getfield 55, 3) := by decide +kernel
theorem c101_37 : qcd 101 37 = some (.iload_n 2, 1) := by decide +kernel
theorem c101_38 : qcd 101 38 = some (.iaload, 1) := by decide +kernel
theorem c101_39 : qcd 101 39 = some (.i2l, 1) := by decide +kernel
theorem c101_40 : qcd 101 40 = some (.aload_n 0, 1) := by decide +kernel
theorem c101_41 : qcd 101 41 = some (.iload_n 1, 1) := by decide +kernel
theorem c101_42 : qcd 101 42 = some (.invokevirtual 527, 3) := by decide +kernel
theorem c101_45 : qcd 101 45 = some (.i2l, 1) := by decide +kernel
theorem c101_46 : qcd 101 46 = some (.lmul, 1) := by decide +kernel
theorem c101_47 : qcd 101 47 = some (.ladd, 1) := by decide +kernel
theorem c101_48 : qcd 101 48 = some (.lreturn, 1) := by decide +kernel
theorem c102_0 : qcd 102 0 = some (.iload_n 2, 1) := by decide +kernel
theorem c102_1 : qcd 102 1 = some (.iconst 1, 1) := by decide +kernel
theorem c102_2 : qcd 102 2 = some (.iadd, 1) := by decide +kernel
theorem c102_3 : qcd 102 3 = some (.istore_n 3, 1) := by decide +kernel
theorem c102_4 : qcd 102 4 = some (.iload_n 1, 1) := by decide +kernel
theorem c102_5 : qcd 102 5 = some (.bipush 38, 2) := by decide +kernel
theorem c102_7 : qcd 102 7 = some (.if_icmp .eq 9, 3) := by decide +kernel
theorem c102_10 : qcd 102 10 = some (.iload_n 1, 1) := by decide +kernel
theorem c102_11 : qcd 102 11 = some (.bipush 124, 2) := by decide +kernel
theorem c102_13 : qcd 102 13 = some (.if_icmp .ne 59, 3) := by decide +kernel
theorem c102_16 : qcd 102 16 = some (.aload_n 0, 1) := by decide +kernel
theorem c102_17 : qcd 102 17 = some (.getfield 122, 3) := by decide +kernel
theorem c102_20 : qcd 102 20 = some (.iload_n 2, 1) := by decide +kernel
theorem c102_21 : qcd 102 21 = some (.baload, 1) := by decide +kernel
theorem c102_22 : qcd 102 22 = some (.ifCond .ne 24, 3) := by decide +kernel
theorem c102_25 : qcd 102 25 = some (.aload_n 0, 1) := by decide +kernel
theorem c102_26 : qcd 102 26 = some (.getfield 119, 3) := by decide +kernel
theorem c102_29 : qcd 102 29 = some (.iload_n 2, 1) := by decide +kernel
theorem c102_30 : qcd 102 30 = some (.laload, 1) := by decide +kernel
theorem c102_31 : qcd 102 31 = some (.iload_n 1, 1) := by decide +kernel
theorem c102_32 : qcd 102 32 = some (.bipush 38, 2) := by decide +kernel
theorem c102_34 : qcd 102 34 = some (.if_icmp .ne 7, 3) := by decide +kernel
theorem c102_37 : qcd 102 37 = some (.lconst 1, 1) := by decide +kernel
theorem c102_38 : qcd 102 38 = some (.goto 4, 3) := by decide +kernel
theorem c102_41 : qcd 102 41 = some (.lconst 0, 1) := by decide +kernel
theorem c102_42 : qcd 102 42 = some (.lcmp, 1) := by decide +kernel
theorem c102_43 : qcd 102 43 = some (.ifCond .eq 4, 3) := by decide +kernel
theorem c102_46 : qcd 102 46 = some (.return_, 1) := by decide +kernel
theorem c102_47 : qcd 102 47 = some (.aload_n 0, 1) := by decide +kernel
theorem c102_48 : qcd 102 48 = some (.getfield 119, 3) := by decide +kernel
theorem c102_51 : qcd 102 51 = some (.iload_n 2, 1) := by decide +kernel
theorem c102_52 : qcd 102 52 = some (.aload_n 0, 1) := by decide +kernel
theorem c102_53 : qcd 102 53 = some (.getfield 119, 3) := by decide +kernel
theorem c102_56 : qcd 102 56 = some (.iload_n 3, 1) := by decide +kernel
theorem c102_57 : qcd 102 57 = some (.laload, 1) := by decide +kernel
theorem c102_58 : qcd 102 58 = some (.lastore, 1) := by decide +kernel
theorem c102_59 : qcd 102 59 = some (.aload_n 0, 1) := by decide +kernel
theorem c102_60 : qcd 102 60 = some (.getfield 122, 3) := by decide +kernel
theorem c102_63 : qcd 102 63 = some (.iload_n 2, 1) := by decide +kernel
theorem c102_64 : qcd 102 64 = some (.aload_n 0, 1) := by decide +kernel
theorem c102_65 : qcd 102 65 = some (.getfield 122, 3) := by decide +kernel
theorem c102_68 : qcd 102 68 = some (.iload_n 3, 1) := by decide +kernel
theorem c102_69 : qcd 102 69 = some (.baload, 1) := by decide +kernel
theorem c102_70 : qcd 102 70 = some (.bastore, 1) := by decide +kernel
theorem c102_71 : qcd 102 71 = some (.return_, 1) := by decide +kernel
theorem c102_72 : qcd 102 72 = some (.aload_n 0, 1) := by decide +kernel
theorem c102_73 : qcd 102 73 = some (.getfield 122, 3) := by decide +kernel
theorem c102_76 : qcd 102 76 = some (.iload_n 2, 1) := by decide +kernel
theorem c102_77 : qcd 102 77 = some (.aload_n 0, 1) := by decide +kernel
theorem c102_78 : qcd 102 78 = some (.getfield 122, 3) := by decide +kernel
theorem c102_81 : qcd 102 81 = some (.iload_n 2, 1) := by decide +kernel
theorem c102_82 : qcd 102 82 = some (.baload, 1) := by decide +kernel
theorem c102_83 : qcd 102 83 = some (.ifCond .ne 35, 3) := by decide +kernel
theorem c102_86 : qcd 102 86 = some (.aload_n 0, 1) := by decide +kernel
theorem c102_87 : qcd 102 87 = some (.getfield 122, 3) := by decide +kernel
theorem c102_90 : qcd 102 90 = some (.iload_n 3, 1) := by decide +kernel
theorem c102_91 : qcd 102 91 = some (.baload, 1) := by decide +kernel
theorem c102_92 : qcd 102 92 = some (.ifCond .ne 26, 3) := by decide +kernel
theorem c102_95 : qcd 102 95 = some (.iload_n 1, 1) := by decide +kernel
theorem c102_96 : qcd 102 96 = some (.bipush 47, 2) := by decide +kernel
theorem c102_98 : qcd 102 98 = some (.if_icmp .eq 9, 3) := by decide +kernel
theorem c102_101 : qcd 102 101 = some (.iload_n 1, 1) := by decide +kernel
theorem c102_102 : qcd 102 102 = some (.bipush 37, 2) := by decide +kernel
theorem c102_104 : qcd 102 104 = some (.if_icmp .ne 18, 3) := by decide +kernel
theorem c102_107 : qcd 102 107 = some (.aload_n 0, 1) := by decide +kernel
theorem c102_108 : qcd 102 108 = some (.getfield 119, 3) := by decide +kernel
theorem c102_111 : qcd 102 111 = some (.iload_n 3, 1) := by decide +kernel
theorem c102_112 : qcd 102 112 = some (.laload, 1) := by decide +kernel
theorem c102_113 : qcd 102 113 = some (.lconst 0, 1) := by decide +kernel
theorem c102_114 : qcd 102 114 = some (.lcmp, 1) := by decide +kernel
theorem c102_115 : qcd 102 115 = some (.ifCond .ne 7, 3) := by decide +kernel
theorem c102_118 : qcd 102 118 = some (.iconst 1, 1) := by decide +kernel
theorem c102_119 : qcd 102 119 = some (.goto 4, 3) := by decide +kernel
theorem c102_122 : qcd 102 122 = some (.iconst 0, 1) := by decide +kernel
theorem c102_123 : qcd 102 123 = some (.bastore, 1) := by decide +kernel
theorem c102_124 : qcd 102 124 = some (.aload_n 0, 1) := by decide +kernel
theorem c102_125 : qcd 102 125 = some (.getfield 119, 3) := by decide +kernel
theorem c102_128 : qcd 102 128 = some (.iload_n 2, 1) := by decide +kernel
theorem c102_129 : qcd 102 129 = some (.iload_n 1, 1) := by decide +kernel
theorem c102_130 : qcd 102 130 = some (.aload_n 0, 1) := by decide +kernel
theorem c102_131 : qcd 102 131 = some (.getfield 119, 3) := by decide +kernel
theorem c102_134 : qcd 102 134 = some (.iload_n 2, 1) := by decide +kernel
theorem c102_135 : qcd 102 135 = some (.laload, 1) := by decide +kernel
theorem c102_136 : qcd 102 136 = some (.aload_n 0, 1) := by decide +kernel
theorem c102_137 : qcd 102 137 = some (.getfield 119, 3) := by decide +kernel
theorem c102_140 : qcd 102 140 = some (.iload_n 3, 1) := by decide +kernel
theorem c102_141 : qcd 102 141 = some (.laload, 1) := by decide +kernel
theorem c102_142 : qcd 102 142 = some (.invokestatic 411, 3) := by decide +kernel
theorem c102_145 : qcd 102 145 = some (.lastore, 1) := by decide +kernel
theorem c102_146 : qcd 102 146 = some (.return_, 1) := by decide +kernel
theorem c103_0 : qcd 103 0 = some (.aload_n 0, 1) := by decide +kernel
theorem c103_1 : qcd 103 1 = some (.invokevirtual 299, 3) := by decide +kernel
theorem c103_4 : qcd 103 4 = some (.ifCond .ne 4, 3) := by decide +kernel
theorem c103_7 : qcd 103 7 = some (.return_, 1) := by decide +kernel
theorem c103_8 : qcd 103 8 = some (.aload_n 0, 1) := by decide +kernel
theorem c103_9 : qcd 103 9 = some (.getfield 110, 3) := by decide +kernel
theorem c103_12 : qcd 103 12 = some (.aload_n 0, 1) := by decide +kernel
theorem c103_13 : qcd 103 13 = some (.getfield 303, 3) := by decide +kernel
theorem c103_16 : qcd 103 16 = some (.iload_n 1, 1) := by decide +kernel
theorem c103_17 : qcd 103 17 = some (.iastore, 1) := by decide +kernel
theorem c103_18 : qcd 103 18 = some (.aload_n 0, 1) := by decide +kernel
theorem c103_19 : qcd 103 19 = some (.getfield 113, 3) := by decide +kernel
theorem c103_22 : qcd 103 22 = some (.aload_n 0, 1) := by decide +kernel
theorem c103_23 : qcd 103 23 = some (.getfield 303, 3) := by decide +kernel
theorem c103_26 : qcd 103 26 = some (.iload_n 2, 1) := by decide +kernel
theorem c103_27 : qcd 103 27 = some (.iastore, 1) := by decide +kernel
theorem c103_28 : qcd 103 28 = some (.aload_n 0, 1) := by decide +kernel
theorem c103_29 : qcd 103 29 = some (.dup, 1) := by decide +kernel
theorem c103_30 : qcd 103 30 = some (.getfield 303, 3) := by decide +kernel
theorem c103_33 : qcd 103 33 = some (.iconst 1, 1) := by decide +kernel
theorem c103_34 : qcd 103 34 = some (.iadd, 1) := by decide +kernel
theorem c103_35 : qcd 103 35 = some (.putfield 303, 3) := by decide +kernel
theorem c103_38 : qcd 103 38 = some (.return_, 1) := by decide +kernel
theorem c104_0 : qcd 104 0 = some (.aload_n 0, 1) := by decide +kernel
theorem c104_1 : qcd 104 1 = some (.invokevirtual 332, 3) := by decide +kernel
theorem c104_4 : qcd 104 4 = some (.bipush 33, 2) := by decide +kernel
theorem c104_6 : qcd 104 6 = some (.if_icmp .ne 32, 3) := by decide +kernel
theorem c104_9 : qcd 104 9 = some (.aload_n 0, 1) := by decide +kernel
theorem c104_10 : qcd 104 10 = some (.iconst 2, 1) := by decide +kernel
theorem c104_11 : qcd 104 11 = some (.iconst 0, 1) := by decide +kernel
theorem c104_12 : qcd 104 12 = some (.invokevirtual 341, 3) := by decide +kernel
theorem c104_15 : qcd 104 15 = some (.aload_n 0, 1) := by decide +kernel
theorem c104_16 : qcd 104 16 = some (.dup, 1) := by decide +kernel
theorem c104_17 : qcd 104 17 = some (.getfield 306, 3) := by decide +kernel
theorem c104_20 : qcd 104 20 = some (.iconst 1, 1) := by decide +kernel
theorem c104_21 : qcd 104 21 = some (.isub, 1) := by decide +kernel
theorem c104_22 : qcd 104 22 = some (.putfield 306, 3) := by decide +kernel
theorem c104_25 : qcd 104 25 = some (.aload_n 0, 1) := by decide +kernel
theorem c104_26 : qcd 104 26 = some (.dup, 1) := by decide +kernel
theorem c104_27 : qcd 104 27 = some (.getfield 309, 3) := by decide +kernel
theorem c104_30 : qcd 104 30 = some (.iconst 1, 1) := by decide +kernel
theorem c104_31 : qcd 104 31 = some (.isub, 1) := by decide +kernel
theorem c104_32 : qcd 104 32 = some (.putfield 309, 3) := by decide +kernel
theorem c104_35 : qcd 104 35 = some (.goto (-35), 3) := by decide +kernel
theorem c104_38 : qcd 104 38 = some (.return_, 1) := by decide +kernel
theorem c105_0 : qcd 105 0 = some (.iload_n 1, 1) := by decide +kernel
theorem c105_1 : qcd 105 1 = some (.i2l, 1) := by decide +kernel
theorem c105_2 : qcd 105 2 = some (.lconst 0, 1) := by decide +kernel
theorem c105_3 : qcd 105 3 = some (.aload_n 0, 1) := by decide +kernel
theorem c105_4 : qcd 105 4 = some (.getfield 461, 3) := by decide +kernel
theorem c105_7 : qcd 105 7 = some (.iconst 1, 1) := by decide +kernel
theorem c105_8 : qcd 105 8 = some (.isub, 1) := by decide +kernel
theorem c105_9 : qcd 105 9 = some (.i2l, 1) := by decide +kernel
theorem c105_10 : qcd 105 10 = some (.invokestatic 190, 3) := by decide +kernel
theorem c105_13 : qcd 105 13 = some (.ifCond .ne 5, 3) := by decide +kernel
theorem c105_16 : qcd 105 16 = some (.iconst (-1), 1) := by decide +kernel
theorem c105_17 : qcd 105 17 = some (.ireturn, 1) := by decide +kernel
theorem c105_18 : qcd 105 18 = some (.iload_n 2, 1) := by decide +kernel
theorem c105_19 : qcd 105 19 = some (.iconst 3, 1) := by decide +kernel
theorem c105_20 : qcd 105 20 = some (.if_icmp .ne 29, 3) := by decide +kernel
theorem c105_23 : qcd 105 23 = some (.iconst 0, 1) := by decide +kernel
theorem c105_24 : qcd 105 24 = some (.istore_n 3, 1) := by decide +kernel
theorem c105_25 : qcd 105 25 = some (.iload_n 3, 1) := by decide +kernel
theorem c105_26 : qcd 105 26 = some (.iload_n 1, 1) := by decide +kernel
theorem c105_27 : qcd 105 27 = some (.if_icmp .ge 20, 3) := by decide +kernel
theorem c105_30 : qcd 105 30 = some (.aload_n 0, 1) := by decide +kernel
theorem c105_31 : qcd 105 31 = some (.iload_n 3, 1) := by decide +kernel
theorem c105_32 : qcd 105 32 = some (.iload_n 1, 1) := by decide +kernel
theorem c105_33 : qcd 105 33 = some (.invokevirtual 474, 3) := by decide +kernel
theorem c105_36 : qcd 105 36 = some (.ifCond .eq 5, 3) := by decide +kernel
theorem c105_39 : qcd 105 39 = some (.iload_n 3, 1) := by decide +kernel
theorem c105_40 : qcd 105 40 = some (.ireturn, 1) := by decide +kernel
theorem c105_41 : qcd 105 41 = some (.iinc 3 1, 3) := by decide +kernel
theorem c105_44 : qcd 105 44 = some (.goto (-19), 3) := by decide +kernel
theorem c105_47 : qcd 105 47 = some (.iconst (-1), 1) := by decide +kernel
theorem c105_48 : qcd 105 48 = some (.ireturn, 1) := by decide +kernel
theorem c105_49 : qcd 105 49 = some (.iload_n 2, 1) := by decide +kernel
theorem c105_50 : qcd 105 50 = some (.ifCond .ne 12, 3) := by decide +kernel
theorem c105_53 : qcd 105 53 = some (.aload_n 0, 1) := by decide +kernel
theorem c105_54 : qcd 105 54 = some (.getfield 140, 3) := by decide +kernel
theorem c105_57 : qcd 105 57 = some (.iload_n 1, 1) := by decide +kernel
theorem c105_58 : qcd 105 58 = some (.iaload, 1) := by decide +kernel
theorem c105_59 : qcd 105 59 = some (.goto 32, 3) := by decide +kernel
theorem c105_62 : qcd 105 62 = some (.iload_n 2, 1) := by decide +kernel
theorem c105_63 : qcd 105 63 = some (.iconst 1, 1) := by decide +kernel
theorem c105_64 : qcd 105 64 = some (.if_icmp .ne 12, 3) := by decide +kernel
theorem c105_67 : qcd 105 67 = some (.aload_n 0, 1) := by decide +kernel
theorem c105_68 : qcd 105 68 = some (.getfield 143, 3) := by decide +kernel
theorem c105_71 : qcd 105 71 = some (.iload_n 1, 1) := by decide +kernel
theorem c105_72 : qcd 105 72 = some (.iaload, 1) := by decide +kernel
theorem c105_73 : qcd 105 73 = some (.goto 18, 3) := by decide +kernel
theorem c105_76 : qcd 105 76 = some (.iload_n 2, 1) := by decide +kernel
theorem c105_77 : qcd 105 77 = some (.iconst 2, 1) := by decide +kernel
theorem c105_78 : qcd 105 78 = some (.if_icmp .ne 12, 3) := by decide +kernel
theorem c105_81 : qcd 105 81 = some (.aload_n 0, 1) := by decide +kernel
theorem c105_82 : qcd 105 82 = some (.getfield 146, 3) := by decide +kernel
theorem c105_85 : qcd 105 85 = some (.iload_n 1, 1) := by decide +kernel
theorem c105_86 : qcd 105 86 = some (.iaload, 1) := by decide +kernel
theorem c105_87 : qcd 105 87 = some (.goto 4, 3) := by decide +kernel
theorem c105_90 : qcd 105 90 = some (.iconst (-1), 1) := by decide +kernel
theorem c105_91 : qcd 105 91 = some (.ireturn, 1) := by decide +kernel
theorem c106_0 : qcd 106 0 = some (.aload_n 0, 1) := by decide +kernel
theorem c106_1 : qcd 106 1 = some (.invokevirtual 299, 3) := by decide +kernel
theorem c106_4 : qcd 106 4 = some (.ifCond .eq 19, 3) := by decide +kernel
theorem c106_7 : qcd 106 7 = some (.aload_n 0, 1) := by decide +kernel
theorem c106_8 : qcd 106 8 = some (.invokevirtual 315, 3) := by decide +kernel
theorem c106_11 : qcd 106 11 = some (.bipush 91, 2) := by decide +kernel
theorem c106_13 : qcd 106 13 = some (.if_icmp .ne 10, 3) := by decide +kernel
theorem c106_16 : qcd 106 16 = some (.aload_n 0, 1) := by decide +kernel
theorem c106_17 : qcd 106 17 = some (.invokevirtual 344, 3) := by decide +kernel
theorem c106_20 : qcd 106 20 = some (.goto (-20), 3) := by decide +kernel
theorem c106_23 : qcd 106 23 = some (.aload_n 0, 1) := by decide +kernel
theorem c106_24 : qcd 106 24 = some (.invokevirtual 299, 3) := by decide +kernel
theorem c106_27 : qcd 106 27 = some (.ifCond .ne 4, 3) := by decide +kernel
theorem c106_30 : qcd 106 30 = some (.return_, 1) := by decide +kernel
theorem c106_31 : qcd 106 31 = some (.aload_n 0, 1) := by decide +kernel
theorem c106_32 : qcd 106 32 = some (.invokevirtual 326, 3) := by decide +kernel
theorem c106_35 : qcd 106 35 = some (.ifCond .eq 15, 3) := by decide +kernel
theorem c106_38 : qcd 106 38 = some (.aload_n 0, 1) := by decide +kernel
theorem c106_39 : qcd 106 39 = some (.iconst 0, 1) := by decide +kernel
theorem c106_40 : qcd 106 40 = some (.aload_n 0, 1) := by decide +kernel
theorem c106_41 : qcd 106 41 = some (.invokevirtual 347, 3) := by decide +kernel
theorem c106_44 : qcd 106 44 = some (.invokevirtual 341, 3) := by decide +kernel
theorem c106_47 : qcd 106 47 = some (.goto 45, 3) := by decide +kernel
theorem c106_50 : qcd 106 50 = some (.aload_n 0, 1) := by decide +kernel
theorem c106_51 : qcd 106 51 = some (.aload_n 0, 1) := by decide +kernel
theorem c106_52 : qcd 106 52 = some (.invokevirtual 315, 3) := by decide +kernel
theorem c106_55 : qcd 106 55 = some (.invokevirtual 350, 3) := by decide +kernel
theorem c106_58 : qcd 106 58 = some (.ifCond .eq 25, 3) := by decide +kernel
theorem c106_61 : qcd 106 61 = some (.aload_n 0, 1) := by decide +kernel
theorem c106_62 : qcd 106 62 = some (.iconst 1, 1) := by decide +kernel
theorem c106_63 : qcd 106 63 = some (.aload_n 0, 1) := by decide +kernel
theorem c106_64 : qcd 106 64 = some (.invokevirtual 315, 3) := by decide +kernel
theorem c106_67 : qcd 106 67 = some (.invokevirtual 341, 3) := by decide +kernel
theorem c106_70 : qcd 106 70 = some (.aload_n 0, 1) := by decide +kernel
theorem c106_71 : qcd 106 71 = some (.dup, 1) := by decide +kernel
theorem c106_72 : qcd 106 72 = some (.getfield 290, 3) := by decide +kernel
theorem c106_75 : qcd 106 75 = some (.iconst 1, 1) := by decide +kernel
theorem c106_76 : qcd 106 76 = some (.iadd, 1) := by decide +kernel
theorem c106_77 : qcd 106 77 = some (.putfield 290, 3) := by decide +kernel
theorem c106_80 : qcd 106 80 = some (.goto 12, 3) := by decide +kernel
theorem c106_83 : qcd 106 83 = some (.aload_n 0, 1) := by decide +kernel
theorem c106_84 : qcd 106 84 = some (.iconst 1, 1) := by decide +kernel
theorem c106_85 : qcd 106 85 = some (.aload_n 0, 1) := by decide +kernel
theorem c106_86 : qcd 106 86 = some (.getfield 290, 3) := by decide +kernel
theorem c106_89 : qcd 106 89 = some (.invokevirtual 312, 3) := by decide +kernel
theorem c106_92 : qcd 106 92 = some (.return_, 1) := by decide +kernel
theorem c107_0 : qcd 107 0 = some (.aload_n 0, 1) := by decide +kernel
theorem c107_1 : qcd 107 1 = some (.getfield 283, 3) := by decide +kernel
theorem c107_4 : qcd 107 4 = some (.bipush 20, 2) := by decide +kernel
theorem c107_6 : qcd 107 6 = some (.iadd, 1) := by decide +kernel
theorem c107_7 : qcd 107 7 = some (.sipush 200, 3) := by decide +kernel
theorem c107_10 : qcd 107 10 = some (.if_icmp .le 5, 3) := by decide +kernel
theorem c107_13 : qcd 107 13 = some (.iconst (-1), 1) := by decide +kernel
theorem c107_14 : qcd 107 14 = some (.ireturn, 1) := by decide +kernel
theorem c107_15 : qcd 107 15 = some (.aload_n 0, 1) := by decide +kernel
theorem c107_16 : qcd 107 16 = some (.iload_n 1, 1) := by decide +kernel
theorem c107_17 : qcd 107 17 = some (.invokevirtual 286, 3) := by decide +kernel
theorem c107_20 : qcd 107 20 = some (.aload_n 0, 1) := by decide +kernel
theorem c107_21 : qcd 107 21 = some (.iload_n 2, 1) := by decide +kernel
theorem c107_22 : qcd 107 22 = some (.invokevirtual 286, 3) := by decide +kernel
theorem c107_25 : qcd 107 25 = some (.aload_n 0, 1) := by decide +kernel
theorem c107_26 : qcd 107 26 = some (.iload_n 3, 1) := by decide +kernel
theorem c107_27 : qcd 107 27 = some (.invokevirtual 286, 3) := by decide +kernel
theorem c107_30 : qcd 107 30 = some (.aload_n 0, 1) := by decide +kernel
theorem c107_31 : qcd 107 31 = some (.iload 4, 2) := by decide +kernel
theorem c107_33 : qcd 107 33 = some (.invokevirtual 286, 3) := by decide +kernel
theorem c107_36 : qcd 107 36 = some (.aload_n 0, 1) := by decide +kernel
theorem c107_37 : qcd 107 37 = some (.iload 5, 2) := by decide +kernel
theorem c107_39 : qcd 107 39 = some (.invokevirtual 286, 3) := by decide +kernel
theorem c107_42 : qcd 107 42 = some (.aload_n 0, 1) := by decide +kernel
theorem c107_43 : qcd 107 43 = some (.getfield 283, 3) := by decide +kernel
theorem c107_46 : qcd 107 46 = some (.ireturn, 1) := by decide +kernel
theorem c108_0 : qcd 108 0 = some (.iconst 0, 1) := by decide +kernel
theorem c108_1 : qcd 108 1 = some (.istore_n 1, 1) := by decide +kernel
theorem c108_2 : qcd 108 2 = some (.iload_n 1, 1) := by decide +kernel
theorem c108_3 : qcd 108 3 = some (.aload_n 0, 1) := by decide +kernel
theorem c108_4 : qcd 108 4 = some (.getfield 202, 3) := by decide +kernel
theorem c108_7 : qcd 108 7 = some (.if_icmp .ge 20, 3) := by decide +kernel
theorem c108_10 : qcd 108 10 = some (.aload_n 0, 1) := by decide +kernel
theorem c108_11 : qcd 108 11 = some (.getfield 131, 3) := by decide +kernel
theorem c108_14 : qcd 108 14 = some (.iload_n 1, 1) := by decide +kernel
theorem c108_15 : qcd 108 15 = some (.iaload, 1) := by decide +kernel
theorem c108_16 : qcd 108 16 = some (.ifCond .eq 5, 3) := by decide +kernel
theorem c108_19 : qcd 108 19 = some (.iload_n 1, 1) := by decide +kernel
theorem c108_20 : qcd 108 20 = some (.ireturn, 1) := by decide +kernel
theorem c108_21 : qcd 108 21 = some (.iinc 1 1, 3) := by decide +kernel
theorem c108_24 : qcd 108 24 = some (.goto (-22), 3) := by decide +kernel
theorem c108_27 : qcd 108 27 = some (.iconst (-1), 1) := by decide +kernel
theorem c108_28 : qcd 108 28 = some (.ireturn, 1) := by decide +kernel
theorem c109_0 : qcd 109 0 = some (.iconst 0, 1) := by decide +kernel
theorem c109_1 : qcd 109 1 = some (.istore_n 1, 1) := by decide +kernel
theorem c109_2 : qcd 109 2 = some (.iload_n 1, 1) := by decide +kernel
theorem c109_3 : qcd 109 3 = some (.bipush 25, 2) := by decide +kernel
theorem c109_5 : qcd 109 5 = some (.if_icmp .ge 29, 3) := by decide +kernel
theorem c109_8 : qcd 109 8 = some (.aload_n 0, 1) := by decide +kernel
theorem c109_9 : qcd 109 9 = some (.getfield 176, 3) := by decide +kernel
theorem c109_12 : qcd 109 12 = some (.iload_n 1, 1) := by decide +kernel
theorem c109_13 : qcd 109 13 = some (.iload_n 1, 1) := by decide +kernel
theorem c109_14 : qcd 109 14 = some (.bipush 6, 2) := by decide +kernel
theorem c109_16 : qcd 109 16 = some (.irem, 1) := by decide +kernel
theorem c109_17 : qcd 109 17 = some (.ifCond .ne 7, 3) := by decide +kernel
theorem c109_20 : qcd 109 20 = some (.iconst 0, 1) := by decide +kernel
theorem c109_21 : qcd 109 21 = some (.goto 6, 3) := by decide +kernel
theorem c109_24 : qcd 109 24 = some (.ldc_w 516, 3) := by decide +kernel
theorem c109_27 : qcd 109 27 = some (.iastore, 1) := by decide +kernel
theorem c109_28 : qcd 109 28 = some (.iinc 1 1, 3) := by decide +kernel
theorem c109_31 : qcd 109 31 = some (.goto (-29), 3) := by decide +kernel
theorem c109_34 : qcd 109 34 = some (.iconst 0, 1) := by decide +kernel
theorem c109_35 : qcd 109 35 = some (.istore_n 1, 1) := by decide +kernel
theorem c109_36 : qcd 109 36 = some (.iload_n 1, 1) := by decide +kernel
theorem c109_37 : qcd 109 37 = some (.iconst 4, 1) := by decide +kernel
theorem c109_38 : qcd 109 38 = some (.if_icmp .ge 34, 3) := by decide +kernel
theorem c109_41 : qcd 109 41 = some (.aload_n 0, 1) := by decide +kernel
theorem c109_42 : qcd 109 42 = some (.iload_n 1, 1) := by decide +kernel
theorem c109_43 : qcd 109 43 = some (.iconst 4, 1) := by decide +kernel
theorem c109_44 : qcd 109 44 = some (.aload_n 0, 1) := by decide +kernel
theorem c109_45 : qcd 109 45 = some (.getfield 161, 3) := by decide +kernel
theorem c109_48 : qcd 109 48 = some (.iload_n 1, 1) := by decide +kernel
theorem c109_49 : qcd 109 49 = some (.iaload, 1) := by decide +kernel
theorem c109_50 : qcd 109 50 = some (.invokevirtual 517, 3) := by decide +kernel
theorem c109_53 : qcd 109 53 = some (.aload_n 0, 1) := by decide +kernel
theorem c109_54 : qcd 109 54 = some (.iconst 4, 1) := by decide +kernel
theorem c109_55 : qcd 109 55 = some (.iload_n 1, 1) := by decide +kernel
theorem c109_56 : qcd 109 56 = some (.aload_n 0, 1) := by decide +kernel
theorem c109_57 : qcd 109 57 = some (.getfield 158, 3) := by decide +kernel
theorem c109_60 : qcd 109 60 = some (.iload_n 1, 1) := by decide +kernel
theorem c109_61 : qcd 109 61 = some (.iaload, 1) := by decide +kernel
theorem c109_62 : qcd 109 62 = some (.ineg, 1) := by decide +kernel
theorem c109_63 : qcd 109 63 = some (.invokevirtual 517, 3) := by decide +kernel
theorem c109_66 : qcd 109 66 = some (.iinc 1 1, 3) := by decide +kernel
theorem c109_69 : qcd 109 69 = some (.goto (-33), 3) := by decide +kernel
theorem c109_72 : qcd 109 72 = some (.iconst 0, 1) := by decide +kernel
theorem c109_73 : qcd 109 73 = some (.istore_n 1, 1) := by decide +kernel
theorem c109_74 : qcd 109 74 = some (.iload_n 1, 1) := by decide +kernel
theorem c109_75 : qcd 109 75 = some (.aload_n 0, 1) := by decide +kernel
theorem c109_76 : qcd 109 76 = some (.getfield 510, 3) := by decide +kernel
theorem c109_79 : qcd 109 79 = some (.if_icmp .ge 58, 3) := by decide +kernel
theorem c109_82 : qcd 109 82 = some (.aload_n 0, 1) := by decide +kernel
theorem c109_83 : qcd 109 83 = some (.aload_n 0, 1) := by decide +kernel
theorem c109_84 : qcd 109 84 = some (.getfield 164, 3) := by decide +kernel
theorem c109_87 : qcd 109 87 = some (.aload_n 0, 1) := by decide +kernel
theorem c109_88 : qcd 109 88 = some (.getfield 173, 3) := by decide +kernel
theorem c109_91 : qcd 109 91 = some (.iload_n 1, 1) := by decide +kernel
theorem c109_92 : qcd 109 92 = some (.iaload, 1) := by decide +kernel
theorem c109_93 : qcd 109 93 = some (.iaload, 1) := by decide +kernel
theorem c109_94 : qcd 109 94 = some (.aload_n 0, 1) := by decide +kernel
theorem c109_95 : qcd 109 95 = some (.getfield 164, 3) := by decide +kernel
theorem c109_98 : qcd 109 98 = some (.aload_n 0, 1) := by decide +kernel
theorem c109_99 : qcd 109 99 = some (.getfield 170, 3) := by decide +kernel
theorem c109_102 : qcd 109 102 = some (.iload_n 1, 1) := by decide +kernel
theorem c109_103 : qcd 109 103 = some (.iaload, 1) := by decide +kernel
theorem c109_104 : qcd 109 104 = some (.iaload, 1) := by decide +kernel
theorem c109_105 : qcd 109 105 = some (.aload_n 0, 1) := by decide +kernel
theorem c109_106 : qcd 109 106 = some (.getfield 167, 3) := by decide +kernel
theorem c109_109 : qcd 109 109 = some (.aload_n 0, 1) := by decide +kernel
theorem c109_110 : qcd 109 110 = some (.getfield 173, 3) := by decide +kernel
theorem c109_113 : qcd 109 113 = some (.iload_n 1, 1) := by decide +kernel
theorem c109_114 : qcd 109 114 = some (.iaload, 1) := by decide +kernel
theorem c109_115 : qcd 109 115 = some (.iaload, 1) := by decide +kernel
theorem c109_116 : qcd 109 116 = some (.aload_n 0, 1) := by decide +kernel
theorem c109_117 : qcd 109 117 = some (.getfield 167, 3) := by decide +kernel
theorem c109_120 : qcd 109 120 = some (.aload_n 0, 1) := by decide +kernel
theorem c109_121 : qcd 109 121 = some (.getfield 170, 3) := by decide +kernel
theorem c109_124 : qcd 109 124 = some (.iload_n 1, 1) := by decide +kernel
theorem c109_125 : qcd 109 125 = some (.iaload, 1) := by decide +kernel
theorem c109_126 : qcd 109 126 = some (.iaload, 1) := by decide +kernel
theorem c109_127 : qcd 109 127 = some (.isub, 1) := by decide +kernel
theorem c109_128 : qcd 109 128 = some (.invokevirtual 517, 3) := by decide +kernel
theorem c109_131 : qcd 109 131 = some (.iinc 1 1, 3) := by decide +kernel
theorem c109_134 : qcd 109 134 = some (.goto (-60), 3) := by decide +kernel
theorem c109_137 : qcd 109 137 = some (.iconst 0, 1) := by decide +kernel
theorem c109_138 : qcd 109 138 = some (.istore_n 1, 1) := by decide +kernel
theorem c109_139 : qcd 109 139 = some (.iload_n 1, 1) := by decide +kernel
theorem c109_140 : qcd 109 140 = some (.iconst 5, 1) := by decide +kernel
theorem c109_141 : qcd 109 141 = some (.if_icmp .ge 62, 3) := by decide +kernel
theorem c109_144 : qcd 109 144 = some (.iconst 0, 1) := by decide +kernel
theorem c109_145 : qcd 109 145 = some (.istore_n 2, 1) := by decide +kernel
theorem c109_146 : qcd 109 146 = some (.iload_n 2, 1) := by decide +kernel
theorem c109_147 : qcd 109 147 = some (.iconst 5, 1) := by decide +kernel
theorem c109_148 : qcd 109 148 = some (.if_icmp .ge 49, 3) := by decide +kernel
theorem c109_151 : qcd 109 151 = some (.iconst 0, 1) := by decide +kernel
theorem c109_152 : qcd 109 152 = some (.istore_n 3, 1) := by decide +kernel
theorem c109_153 : qcd 109 153 = some (.iload_n 3, 1) := by decide +kernel
theorem c109_154 : qcd 109 154 = some (.iconst 5, 1) := by decide +kernel
theorem c109_155 : qcd 109 155 = some (.if_icmp .ge 36, 3) := by decide +kernel
theorem c109_158 : qcd 109 158 = some (.aload_n 0, 1) := by decide +kernel
theorem c109_159 : qcd 109 159 = some (.iload_n 2, 1) := by decide +kernel
theorem c109_160 : qcd 109 160 = some (.iload_n 3, 1) := by decide +kernel
theorem c109_161 : qcd 109 161 = some (.aload_n 0, 1) := by decide +kernel
theorem c109_162 : qcd 109 162 = some (.getfield 176, 3) := by decide +kernel
theorem c109_165 : qcd 109 165 = some (.iconst 5, 1) := by decide +kernel
theorem c109_166 : qcd 109 166 = some (.iload_n 2, 1) := by decide +kernel
theorem c109_167 : qcd 109 167 = some (.imul, 1) := by decide +kernel
theorem c109_168 : qcd 109 168 = some (.iload_n 1, 1) := by decide +kernel
theorem c109_169 : qcd 109 169 = some (.iadd, 1) := by decide +kernel
theorem c109_170 : qcd 109 170 = some (.iaload, 1) := by decide +kernel
theorem c109_171 : qcd 109 171 = some (.aload_n 0, 1) := by decide +kernel
theorem c109_172 : qcd 109 172 = some (.getfield 176, 3) := by decide +kernel
theorem c109_175 : qcd 109 175 = some (.iconst 5, 1) := by decide +kernel
theorem c109_176 : qcd 109 176 = some (.iload_n 1, 1) := by decide +kernel
theorem c109_177 : qcd 109 177 = some (.imul, 1) := by decide +kernel
theorem c109_178 : qcd 109 178 = some (.iload_n 3, 1) := by decide +kernel
theorem c109_179 : qcd 109 179 = some (.iadd, 1) := by decide +kernel
theorem c109_180 : qcd 109 180 = some (.iaload, 1) := by decide +kernel
theorem c109_181 : qcd 109 181 = some (.iadd, 1) := by decide +kernel
theorem c109_182 : qcd 109 182 = some (.invokevirtual 517, 3) := by decide +kernel
theorem c109_185 : qcd 109 185 = some (.iinc 3 1, 3) := by decide +kernel
theorem c109_188 : qcd 109 188 = some (.goto (-35), 3) := by decide +kernel
theorem c109_191 : qcd 109 191 = some (.iinc 2 1, 3) := by decide +kernel
theorem c109_194 : qcd 109 194 = some (.goto (-48), 3) := by decide +kernel
theorem c109_197 : qcd 109 197 = some (.iinc 1 1, 3) := by decide +kernel
theorem c109_200 : qcd 109 200 = some (.goto (-61), 3) := by decide +kernel
theorem c109_203 : qcd 109 203 = some (.iconst 0, 1) := by decide +kernel
theorem c109_204 : qcd 109 204 = some (.istore_n 1, 1) := by decide +kernel
theorem c109_205 : qcd 109 205 = some (.iload_n 1, 1) := by decide +kernel
theorem c109_206 : qcd 109 206 = some (.iconst 5, 1) := by decide +kernel
theorem c109_207 : qcd 109 207 = some (.if_icmp .ge 23, 3) := by decide +kernel
theorem c109_210 : qcd 109 210 = some (.aload_n 0, 1) := by decide +kernel
theorem c109_211 : qcd 109 211 = some (.getfield 176, 3) := by decide +kernel
theorem c109_214 : qcd 109 214 = some (.bipush 6, 2) := by decide +kernel
theorem c109_216 : qcd 109 216 = some (.iload_n 1, 1) := by decide +kernel
theorem c109_217 : qcd 109 217 = some (.imul, 1) := by decide +kernel
theorem c109_218 : qcd 109 218 = some (.iaload, 1) := by decide +kernel
theorem c109_219 : qcd 109 219 = some (.ifCond .ge 5, 3) := by decide +kernel
theorem c109_222 : qcd 109 222 = some (.iconst 0, 1) := by decide +kernel
theorem c109_223 : qcd 109 223 = some (.ireturn, 1) := by decide +kernel
theorem c109_224 : qcd 109 224 = some (.iinc 1 1, 3) := by decide +kernel
theorem c109_227 : qcd 109 227 = some (.goto (-22), 3) := by decide +kernel
theorem c109_230 : qcd 109 230 = some (.iconst 1, 1) := by decide +kernel
theorem c109_231 : qcd 109 231 = some (.ireturn, 1) := by decide +kernel
theorem c110_0 : qcd 110 0 = some (.aload_n 0, 1) := by decide +kernel
theorem c110_1 : qcd 110 1 = some (.iload_n 1, 1) := by decide +kernel
theorem c110_2 : qcd 110 2 = some (.invokevirtual 224, 3) := by decide +kernel
theorem c110_5 : qcd 110 5 = some (.ifCond .ne 7, 3) := by decide +kernel
theorem c110_8 : qcd 110 8 = some (.ldc2_w 464, 3) := by decide +kernel
theorem c110_11 : qcd 110 11 = some (.lreturn, 1) := by decide +kernel
theorem c110_12 : qcd 110 12 = some (.aload_n 0, 1) := by decide +kernel
theorem c110_13 : qcd 110 13 = some (.invokevirtual 466, 3) := by decide +kernel
theorem c110_16 : qcd 110 16 = some (.aload_n 0, 1) := by decide +kernel
theorem c110_17 : qcd 110 17 = some (.iload_n 1, 1) := by decide +kernel
theorem c110_18 : qcd 110 18 = some (.invokevirtual 408, 3) := by decide +kernel
theorem c110_21 : qcd 110 21 = some (.lreturn, 1) := by decide +kernel
theorem c111_0 : qcd 111 0 = some (.aload_n 0, 1) := by decide +kernel
theorem c111_1 : qcd 111 1 = some (.iload_n 1, 1) := by decide +kernel
theorem c111_2 : qcd 111 2 = some (.iload_n 2, 1) := by decide +kernel
theorem c111_3 : qcd 111 3 = some (.invokevirtual 252, 3) := by decide +kernel
theorem c111_6 : qcd 111 6 = some (.istore_n 3, 1) := by decide +kernel
theorem c111_7 : qcd 111 7 = some (.aload_n 0, 1) := by decide +kernel
theorem c111_8 : qcd 111 8 = some (.iload_n 3, 1) := by decide +kernel
theorem c111_9 : qcd 111 9 = some (.invokevirtual 255, 3) := by decide +kernel
theorem c111_12 : qcd 111 12 = some (.lstore 4, 2) := by decide +kernel
theorem c111_14 : qcd 111 14 = some (.iconst 0, 1) := by decide +kernel
theorem c111_15 : qcd 111 15 = some (.istore 6, 2) := by decide +kernel
theorem c111_17 : qcd 111 17 = some (.iload 6, 2) := by decide +kernel
theorem c111_19 : qcd 111 19 = some (.aload_n 0, 1) := by decide +kernel
theorem c111_20 : qcd 111 20 = some (.getfield 186, 3) := by decide +kernel
theorem c111_23 : qcd 111 23 = some (.if_icmp .ge 126, 3) := by decide +kernel
theorem c111_26 : qcd 111 26 = some (.aload_n 0, 1) := by decide +kernel
theorem c111_27 : qcd 111 27 = some (.getfield 58, 3) := by decide +kernel
theorem c111_30 : qcd 111 30 = some (.iload 6, 2) := by decide +kernel
theorem c111_32 : qcd 111 32 = some (.iaload, 1) := by decide +kernel
theorem c111_33 : qcd 111 33 = some (.iload_n 2, 1) := by decide +kernel
theorem c111_34 : qcd 111 34 = some (.if_icmp .eq 6, 3) := by decide +kernel
theorem c111_37 : qcd 111 37 = some (.goto 106, 3) := by decide +kernel
theorem c111_40 : qcd 111 40 = some (.aload_n 0, 1) := by decide +kernel
theorem c111_41 : qcd 111 41 = some (.getfield 83, 3) := by decide +kernel
theorem c111_44 : qcd 111 44 = some (.iload 6, 2) := by decide +kernel
theorem c111_46 : qcd 111 46 = some (.lconst 0, 1) := by decide +kernel
theorem c111_47 : qcd 111 47 = some (.lastore, 1) := by decide +kernel
theorem c111_48 : qcd 111 48 = some (.iconst 0, 1) := by decide +kernel
theorem c111_49 : qcd 111 49 = some (.istore 7, 2) := by decide +kernel
theorem c111_51 : qcd 111 51 = some (.iload 7, 2) := by decide +kernel
theorem c111_53 : qcd 111 53 = some (.aload_n 0, 1) := by decide +kernel
theorem c111_54 : qcd 111 54 = some (.getfield 186, 3) := by decide +kernel
theorem c111_57 : qcd 111 57 = some (.if_icmp .ge 86, 3) := by decide +kernel
theorem c111_60 : qcd 111 60 = some (.aload_n 0, 1) := by decide +kernel
theorem c111_61 : qcd 111 61 = some (.getfield 80, 3) := by decide +kernel
theorem c111_64 : qcd 111 64 = some (.iload 6, 2) := by decide +kernel
theorem c111_66 : qcd 111 66 = some (.iaload, 1) := by decide +kernel
theorem c111_67 : qcd 111 67 = some (.iconst (-1), 1) := by decide +kernel
theorem c111_68 : qcd 111 68 = some (.if_icmp .eq 75, 3) := by decide +kernel
theorem c111_71 : qcd 111 71 = some (.aload_n 0, 1) := by decide +kernel
theorem c111_72 : qcd 111 72 = some (.getfield 58, 3) := by decide +kernel
theorem c111_75 : qcd 111 75 = some (.iload 7, 2) := by decide +kernel
theorem c111_77 : qcd 111 77 = some (.iaload, 1) := by decide +kernel
theorem c111_78 : qcd 111 78 = some (.iload_n 2, 1) := by decide +kernel
theorem c111_79 : qcd 111 79 = some (.if_icmp .ne 58, 3) := by decide +kernel
theorem c111_82 : qcd 111 82 = some (.aload_n 0, 1) := by decide +kernel
theorem c111_83 : qcd 111 83 = some (.getfield 80, 3) := by decide +kernel
theorem c111_86 : qcd 111 86 = some (.iload 7, 2) := by decide +kernel
theorem c111_88 : qcd 111 88 = some (.iaload, 1) := by decide +kernel
theorem c111_89 : qcd 111 89 = some (.iconst (-1), 1) := by decide +kernel
theorem c111_90 : qcd 111 90 = some (.if_icmp .eq 47, 3) := by decide +kernel
theorem c111_93 : qcd 111 93 = some (.aload_n 0, 1) := by decide +kernel
theorem c111_94 : qcd 111 94 = some (.getfield 83, 3) := by decide +kernel
theorem c111_97 : qcd 111 97 = some (.iload 6, 2) := by decide +kernel
theorem c111_99 : qcd 111 99 = some (.dup2, 1) := by decide +kernel
theorem c111_100 : qcd 111 100 = some (.laload, 1) := by decide +kernel
theorem c111_101 : qcd 111 101 = some (.aload_n 0, 1) := by decide +kernel
theorem c111_102 : qcd 111 102 = some (.getfield 77, 3) := by decide +kernel
theorem c111_105 : qcd 111 105 = some (.bipush 14, 2) := by decide +kernel
theorem c111_107 : qcd 111 107 = some (.aload_n 0, 1) := by decide +kernel
theorem c111_108 : qcd 111 108 = some (.getfield 80, 3) := by decide +kernel
theorem c111_111 : qcd 111 111 = some (.iload 6, 2) := by decide +kernel
theorem c111_113 : qcd 111 113 = some (.iaload, 1) := by decide +kernel
theorem c111_114 : qcd 111 114 = some (.imul, 1) := by decide +kernel
theorem c111_115 : qcd 111 115 = some (.bipush 7, 2) := by decide +kernel
theorem c111_117 : qcd 111 117 = some (.iadd, 1) := by decide +kernel
theorem c111_118 : qcd 111 118 = some (.aload_n 0, 1) := by decide +kernel
theorem c111_119 : qcd 111 119 = some (.getfield 80, 3) := by decide +kernel
theorem c111_122 : qcd 111 122 = some (.iload 7, 2) := by decide +kernel
theorem c111_124 : qcd 111 124 = some (.iaload, 1) := by decide +kernel
theorem c111_125 : qcd 111 125 = some (.iadd, 1) := by decide +kernel
theorem c111_126 : qcd 111 126 = some (.laload, 1) := by decide +kernel
theorem c111_127 : qcd 111 127 = some (.aload_n 0, 1) := by decide +kernel
theorem c111_128 : qcd 111 128 = some (.iload_n 1, 1) := by decide +kernel
theorem c111_129 : qcd 111 129 = some (.iload 7, 2) := by decide +kernel
theorem c111_131 : qcd 111 131 = some (.invokevirtual 259, 3) := by decide +kernel
theorem c111_134 : qcd 111 134 = some (.lmul, 1) := by decide +kernel
theorem c111_135 : qcd 111 135 = some (.ladd, 1) := by decide +kernel
theorem c111_136 : qcd 111 136 = some (.lastore, 1) := by decide +kernel
theorem c111_137 : qcd 111 137 = some (.iinc 7 1, 3) := by decide +kernel
theorem c111_140 : qcd 111 140 = some (.goto (-89), 3) := by decide +kernel
theorem c111_143 : qcd 111 143 = some (.iinc 6 1, 3) := by decide +kernel
theorem c111_146 : qcd 111 146 = some (.goto (-129), 3) := by decide +kernel
theorem c111_149 : qcd 111 149 = some (.iconst 0, 1) := by decide +kernel
theorem c111_150 : qcd 111 150 = some (.istore 6, 2) := by decide +kernel
theorem c111_152 : qcd 111 152 = some (.iload 6, 2) := by decide +kernel
theorem c111_154 : qcd 111 154 = some (.aload_n 0, 1) := by decide +kernel
theorem c111_155 : qcd 111 155 = some (.getfield 194, 3) := by decide +kernel
theorem c111_158 : qcd 111 158 = some (.if_icmp .ge 90, 3) := by decide +kernel
theorem c111_161 : qcd 111 161 = some (.aload_n 0, 1) := by decide +kernel
theorem c111_162 : qcd 111 162 = some (.getfield 14, 3) := by decide +kernel
theorem c111_165 : qcd 111 165 = some (.iload_n 1, 1) := by decide +kernel
theorem c111_166 : qcd 111 166 = some (.iload 6, 2) := by decide +kernel
theorem c111_168 : qcd 111 168 = some (.iadd, 1) := by decide +kernel
theorem c111_169 : qcd 111 169 = some (.iaload, 1) := by decide +kernel
theorem c111_170 : qcd 111 170 = some (.ifCond .ne 72, 3) := by decide +kernel
theorem c111_173 : qcd 111 173 = some (.aload_n 0, 1) := by decide +kernel
theorem c111_174 : qcd 111 174 = some (.getfield 58, 3) := by decide +kernel
theorem c111_177 : qcd 111 177 = some (.aload_n 0, 1) := by decide +kernel
theorem c111_178 : qcd 111 178 = some (.getfield 24, 3) := by decide +kernel
theorem c111_181 : qcd 111 181 = some (.iload 6, 2) := by decide +kernel
theorem c111_183 : qcd 111 183 = some (.iaload, 1) := by decide +kernel
theorem c111_184 : qcd 111 184 = some (.iaload, 1) := by decide +kernel
theorem c111_185 : qcd 111 185 = some (.iload_n 2, 1) := by decide +kernel
theorem c111_186 : qcd 111 186 = some (.if_icmp .eq 6, 3) := by decide +kernel
theorem c111_189 : qcd 111 189 = some (.goto 53, 3) := by decide +kernel
theorem c111_192 : qcd 111 192 = some (.aload_n 0, 1) := by decide +kernel
theorem c111_193 : qcd 111 193 = some (.getfield 67, 3) := by decide +kernel
theorem c111_196 : qcd 111 196 = some (.iload 6, 2) := by decide +kernel
theorem c111_198 : qcd 111 198 = some (.aload_n 0, 1) := by decide +kernel
theorem c111_199 : qcd 111 199 = some (.getfield 30, 3) := by decide +kernel
theorem c111_202 : qcd 111 202 = some (.iload 6, 2) := by decide +kernel
theorem c111_204 : qcd 111 204 = some (.iaload, 1) := by decide +kernel
theorem c111_205 : qcd 111 205 = some (.i2l, 1) := by decide +kernel
theorem c111_206 : qcd 111 206 = some (.aload_n 0, 1) := by decide +kernel
theorem c111_207 : qcd 111 207 = some (.getfield 83, 3) := by decide +kernel
theorem c111_210 : qcd 111 210 = some (.aload_n 0, 1) := by decide +kernel
theorem c111_211 : qcd 111 211 = some (.getfield 24, 3) := by decide +kernel
theorem c111_214 : qcd 111 214 = some (.iload 6, 2) := by decide +kernel
theorem c111_216 : qcd 111 216 = some (.iaload, 1) := by decide +kernel
theorem c111_217 : qcd 111 217 = some (.laload, 1) := by decide +kernel
theorem c111_218 : qcd 111 218 = some (.aload_n 0, 1) := by decide +kernel
theorem c111_219 : qcd 111 219 = some (.getfield 83, 3) := by decide +kernel
theorem c111_222 : qcd 111 222 = some (.aload_n 0, 1) := by decide +kernel
theorem c111_223 : qcd 111 223 = some (.getfield 27, 3) := by decide +kernel
theorem c111_226 : qcd 111 226 = some (.iload 6, 2) := by decide +kernel
theorem c111_228 : qcd 111 228 = some (.iaload, 1) := by decide +kernel
theorem c111_229 : qcd 111 229 = some (.laload, 1) := by decide +kernel
theorem c111_230 : qcd 111 230 = some (.lsub, 1) := by decide +kernel
theorem c111_231 : qcd 111 231 = some (.lmul, 1) := by decide +kernel
theorem c111_232 : qcd 111 232 = some (.lastore, 1) := by decide +kernel
theorem c111_233 : qcd 111 233 = some (.aload_n 0, 1) := by decide +kernel
theorem c111_234 : qcd 111 234 = some (.getfield 71, 3) := by decide +kernel
theorem c111_237 : qcd 111 237 = some (.iload 6, 2) := by decide +kernel
theorem c111_239 : qcd 111 239 = some (.lload 4, 2) := by decide +kernel
theorem c111_241 : qcd 111 241 = some (.lastore, 1) := by decide +kernel
theorem c111_242 : qcd 111 242 = some (.iinc 6 1, 3) := by decide +kernel
theorem c111_245 : qcd 111 245 = some (.goto (-93), 3) := by decide +kernel
theorem c111_248 : qcd 111 248 = some (.return_, 1) := by decide +kernel
theorem c112_0 : qcd 112 0 = some (.aload_n 0, 1) := by decide +kernel
theorem c112_1 : qcd 112 1 = some (.iload_n 1, 1) := by decide +kernel
theorem c112_2 : qcd 112 2 = some (.iload_n 2, 1) := by decide +kernel
theorem c112_3 : qcd 112 3 = some (.invokevirtual 242, 3) := by decide +kernel
theorem c112_6 : qcd 112 6 = some (.istore_n 3, 1) := by decide +kernel
theorem c112_7 : qcd 112 7 = some (.aload_n 0, 1) := by decide +kernel
theorem c112_8 : qcd 112 8 = some (.getfield 64, 3) := by decide +kernel
theorem c112_11 : qcd 112 11 = some (.iload_n 2, 1) := by decide +kernel
theorem c112_12 : qcd 112 12 = some (.aload_n 0, 1) := by decide +kernel
theorem c112_13 : qcd 112 13 = some (.iload_n 1, 1) := by decide +kernel
theorem c112_14 : qcd 112 14 = some (.iload_n 2, 1) := by decide +kernel
theorem c112_15 : qcd 112 15 = some (.invokevirtual 239, 3) := by decide +kernel
theorem c112_18 : qcd 112 18 = some (.iload_n 3, 1) := by decide +kernel
theorem c112_19 : qcd 112 19 = some (.isub, 1) := by decide +kernel
theorem c112_20 : qcd 112 20 = some (.iastore, 1) := by decide +kernel
theorem c112_21 : qcd 112 21 = some (.iconst 0, 1) := by decide +kernel
theorem c112_22 : qcd 112 22 = some (.istore 4, 2) := by decide +kernel
theorem c112_24 : qcd 112 24 = some (.iconst (-1), 1) := by decide +kernel
theorem c112_25 : qcd 112 25 = some (.istore 5, 2) := by decide +kernel
theorem c112_27 : qcd 112 27 = some (.iconst 0, 1) := by decide +kernel
theorem c112_28 : qcd 112 28 = some (.istore 6, 2) := by decide +kernel
theorem c112_30 : qcd 112 30 = some (.iload 6, 2) := by decide +kernel
theorem c112_32 : qcd 112 32 = some (.aload_n 0, 1) := by decide +kernel
theorem c112_33 : qcd 112 33 = some (.getfield 197, 3) := by decide +kernel
theorem c112_36 : qcd 112 36 = some (.if_icmp .ge 78, 3) := by decide +kernel
theorem c112_39 : qcd 112 39 = some (.iload 4, 2) := by decide +kernel
theorem c112_41 : qcd 112 41 = some (.iload 6, 2) := by decide +kernel
theorem c112_43 : qcd 112 43 = some (.invokestatic 248, 3) := by decide +kernel
theorem c112_46 : qcd 112 46 = some (.ifCond .ne 62, 3) := by decide +kernel
theorem c112_49 : qcd 112 49 = some (.aload_n 0, 1) := by decide +kernel
theorem c112_50 : qcd 112 50 = some (.getfield 14, 3) := by decide +kernel
theorem c112_53 : qcd 112 53 = some (.iload_n 1, 1) := by decide +kernel
theorem c112_54 : qcd 112 54 = some (.bipush 42, 2) := by decide +kernel
theorem c112_56 : qcd 112 56 = some (.iadd, 1) := by decide +kernel
theorem c112_57 : qcd 112 57 = some (.iload 6, 2) := by decide +kernel
theorem c112_59 : qcd 112 59 = some (.iadd, 1) := by decide +kernel
theorem c112_60 : qcd 112 60 = some (.iaload, 1) := by decide +kernel
theorem c112_61 : qcd 112 61 = some (.iconst 1, 1) := by decide +kernel
theorem c112_62 : qcd 112 62 = some (.if_icmp .ne 46, 3) := by decide +kernel
theorem c112_65 : qcd 112 65 = some (.aload_n 0, 1) := by decide +kernel
theorem c112_66 : qcd 112 66 = some (.getfield 58, 3) := by decide +kernel
theorem c112_69 : qcd 112 69 = some (.aload_n 0, 1) := by decide +kernel
theorem c112_70 : qcd 112 70 = some (.getfield 42, 3) := by decide +kernel
theorem c112_73 : qcd 112 73 = some (.iload 6, 2) := by decide +kernel
theorem c112_75 : qcd 112 75 = some (.iaload, 1) := by decide +kernel
theorem c112_76 : qcd 112 76 = some (.iaload, 1) := by decide +kernel
theorem c112_77 : qcd 112 77 = some (.iload_n 2, 1) := by decide +kernel
theorem c112_78 : qcd 112 78 = some (.if_icmp .ne 30, 3) := by decide +kernel
theorem c112_81 : qcd 112 81 = some (.iload 5, 2) := by decide +kernel
theorem c112_83 : qcd 112 83 = some (.iconst (-1), 1) := by decide +kernel
theorem c112_84 : qcd 112 84 = some (.if_icmp .eq 20, 3) := by decide +kernel
theorem c112_87 : qcd 112 87 = some (.aload_n 0, 1) := by decide +kernel
theorem c112_88 : qcd 112 88 = some (.getfield 48, 3) := by decide +kernel
theorem c112_91 : qcd 112 91 = some (.iload 6, 2) := by decide +kernel
theorem c112_93 : qcd 112 93 = some (.iaload, 1) := by decide +kernel
theorem c112_94 : qcd 112 94 = some (.aload_n 0, 1) := by decide +kernel
theorem c112_95 : qcd 112 95 = some (.getfield 48, 3) := by decide +kernel
theorem c112_98 : qcd 112 98 = some (.iload 5, 2) := by decide +kernel
theorem c112_100 : qcd 112 100 = some (.iaload, 1) := by decide +kernel
theorem c112_101 : qcd 112 101 = some (.if_icmp .ge 7, 3) := by decide +kernel
theorem c112_104 : qcd 112 104 = some (.iload 6, 2) := by decide +kernel
theorem c112_106 : qcd 112 106 = some (.istore 5, 2) := by decide +kernel
theorem c112_108 : qcd 112 108 = some (.iinc 6 1, 3) := by decide +kernel
theorem c112_111 : qcd 112 111 = some (.goto (-81), 3) := by decide +kernel
theorem c112_114 : qcd 112 114 = some (.iload 5, 2) := by decide +kernel
theorem c112_116 : qcd 112 116 = some (.iconst (-1), 1) := by decide +kernel
theorem c112_117 : qcd 112 117 = some (.if_icmp .ne 4, 3) := by decide +kernel
theorem c112_120 : qcd 112 120 = some (.return_, 1) := by decide +kernel
theorem c112_121 : qcd 112 121 = some (.iload 4, 2) := by decide +kernel
theorem c112_123 : qcd 112 123 = some (.iconst 1, 1) := by decide +kernel
theorem c112_124 : qcd 112 124 = some (.iload 5, 2) := by decide +kernel
theorem c112_126 : qcd 112 126 = some (.ishl, 1) := by decide +kernel
theorem c112_127 : qcd 112 127 = some (.ior, 1) := by decide +kernel
theorem c112_128 : qcd 112 128 = some (.istore 4, 2) := by decide +kernel
theorem c112_130 : qcd 112 130 = some (.aload_n 0, 1) := by decide +kernel
theorem c112_131 : qcd 112 131 = some (.getfield 61, 3) := by decide +kernel
theorem c112_134 : qcd 112 134 = some (.iload 5, 2) := by decide +kernel
theorem c112_136 : qcd 112 136 = some (.aload_n 0, 1) := by decide +kernel
theorem c112_137 : qcd 112 137 = some (.getfield 45, 3) := by decide +kernel
theorem c112_140 : qcd 112 140 = some (.iload 5, 2) := by decide +kernel
theorem c112_142 : qcd 112 142 = some (.iaload, 1) := by decide +kernel
theorem c112_143 : qcd 112 143 = some (.iload_n 3, 1) := by decide +kernel
theorem c112_144 : qcd 112 144 = some (.if_icmp .ge 13, 3) := by decide +kernel
theorem c112_147 : qcd 112 147 = some (.aload_n 0, 1) := by decide +kernel
theorem c112_148 : qcd 112 148 = some (.getfield 45, 3) := by decide +kernel
theorem c112_151 : qcd 112 151 = some (.iload 5, 2) := by decide +kernel
theorem c112_153 : qcd 112 153 = some (.iaload, 1) := by decide +kernel
theorem c112_154 : qcd 112 154 = some (.goto 4, 3) := by decide +kernel
theorem c112_157 : qcd 112 157 = some (.iload_n 3, 1) := by decide +kernel
theorem c112_158 : qcd 112 158 = some (.iastore, 1) := by decide +kernel
theorem c112_159 : qcd 112 159 = some (.iload_n 3, 1) := by decide +kernel
theorem c112_160 : qcd 112 160 = some (.aload_n 0, 1) := by decide +kernel
theorem c112_161 : qcd 112 161 = some (.getfield 61, 3) := by decide +kernel
theorem c112_164 : qcd 112 164 = some (.iload 5, 2) := by decide +kernel
theorem c112_166 : qcd 112 166 = some (.iaload, 1) := by decide +kernel
theorem c112_167 : qcd 112 167 = some (.isub, 1) := by decide +kernel
theorem c112_168 : qcd 112 168 = some (.istore_n 3, 1) := by decide +kernel
theorem c112_169 : qcd 112 169 = some (.goto (-145), 3) := by decide +kernel
theorem c113_0 : qcd 113 0 = some (.aload_n 0, 1) := by decide +kernel
theorem c113_1 : qcd 113 1 = some (.getfield 202, 3) := by decide +kernel
theorem c113_4 : qcd 113 4 = some (.sipush 499, 3) := by decide +kernel
theorem c113_7 : qcd 113 7 = some (.if_icmp .ne 5, 3) := by decide +kernel
theorem c113_10 : qcd 113 10 = some (.iconst (-1), 1) := by decide +kernel
theorem c113_11 : qcd 113 11 = some (.ireturn, 1) := by decide +kernel
theorem c113_12 : qcd 113 12 = some (.aload_n 0, 1) := by decide +kernel
theorem c113_13 : qcd 113 13 = some (.getfield 131, 3) := by decide +kernel
theorem c113_16 : qcd 113 16 = some (.aload_n 0, 1) := by decide +kernel
theorem c113_17 : qcd 113 17 = some (.getfield 202, 3) := by decide +kernel
theorem c113_20 : qcd 113 20 = some (.aload_n 0, 1) := by decide +kernel
theorem c113_21 : qcd 113 21 = some (.invokevirtual 455, 3) := by decide +kernel
theorem c113_24 : qcd 113 24 = some (.iastore, 1) := by decide +kernel
theorem c113_25 : qcd 113 25 = some (.aload_n 0, 1) := by decide +kernel
theorem c113_26 : qcd 113 26 = some (.ldc 230, 2) := by decide +kernel
theorem c113_28 : qcd 113 28 = some (.bipush 72, 2) := by decide +kernel
theorem c113_30 : qcd 113 30 = some (.aload_n 0, 1) := by decide +kernel
theorem c113_31 : qcd 113 31 = some (.getfield 202, 3) := by decide +kernel
theorem c113_34 : qcd 113 34 = some (.imul, 1) := by decide +kernel
theorem c113_35 : qcd 113 35 = some (.invokevirtual 444, 3) := by decide +kernel
theorem c113_38 : qcd 113 38 = some (.iconst 0, 1) := by decide +kernel
theorem c113_39 : qcd 113 39 = some (.istore_n 1, 1) := by decide +kernel
theorem c113_40 : qcd 113 40 = some (.iload_n 1, 1) := by decide +kernel
theorem c113_41 : qcd 113 41 = some (.aload_n 0, 1) := by decide +kernel
theorem c113_42 : qcd 113 42 = some (.getfield 194, 3) := by decide +kernel
theorem c113_45 : qcd 113 45 = some (.if_icmp .ge 40, 3) := by decide +kernel
theorem c113_48 : qcd 113 48 = some (.aload_n 0, 1) := by decide +kernel
theorem c113_49 : qcd 113 49 = some (.getfield 137, 3) := by decide +kernel
theorem c113_52 : qcd 113 52 = some (.bipush 14, 2) := by decide +kernel
theorem c113_54 : qcd 113 54 = some (.aload_n 0, 1) := by decide +kernel
theorem c113_55 : qcd 113 55 = some (.getfield 202, 3) := by decide +kernel
theorem c113_58 : qcd 113 58 = some (.imul, 1) := by decide +kernel
theorem c113_59 : qcd 113 59 = some (.iload_n 1, 1) := by decide +kernel
theorem c113_60 : qcd 113 60 = some (.iadd, 1) := by decide +kernel
theorem c113_61 : qcd 113 61 = some (.aload_n 0, 1) := by decide +kernel
theorem c113_62 : qcd 113 62 = some (.getfield 14, 3) := by decide +kernel
theorem c113_65 : qcd 113 65 = some (.ldc 230, 2) := by decide +kernel
theorem c113_67 : qcd 113 67 = some (.iload_n 1, 1) := by decide +kernel
theorem c113_68 : qcd 113 68 = some (.iadd, 1) := by decide +kernel
theorem c113_69 : qcd 113 69 = some (.iaload, 1) := by decide +kernel
theorem c113_70 : qcd 113 70 = some (.ifCond .ne 7, 3) := by decide +kernel
theorem c113_73 : qcd 113 73 = some (.iconst 1, 1) := by decide +kernel
theorem c113_74 : qcd 113 74 = some (.goto 4, 3) := by decide +kernel
theorem c113_77 : qcd 113 77 = some (.iconst 0, 1) := by decide +kernel
theorem c113_78 : qcd 113 78 = some (.bastore, 1) := by decide +kernel
theorem c113_79 : qcd 113 79 = some (.iinc 1 1, 3) := by decide +kernel
theorem c113_82 : qcd 113 82 = some (.goto (-42), 3) := by decide +kernel
theorem c113_85 : qcd 113 85 = some (.aload_n 0, 1) := by decide +kernel
theorem c113_86 : qcd 113 86 = some (.ldc 230, 2) := by decide +kernel
theorem c113_88 : qcd 113 88 = some (.invokevirtual 458, 3) := by decide +kernel
theorem c113_91 : qcd 113 91 = some (.iconst 0, 1) := by decide +kernel
theorem c113_92 : qcd 113 92 = some (.istore_n 1, 1) := by decide +kernel
theorem c113_93 : qcd 113 93 = some (.iload_n 1, 1) := by decide +kernel
theorem c113_94 : qcd 113 94 = some (.aload_n 0, 1) := by decide +kernel
theorem c113_95 : qcd 113 95 = some (.getfield 194, 3) := by decide +kernel
theorem c113_98 : qcd 113 98 = some (.if_icmp .ge 29, 3) := by decide +kernel
theorem c113_101 : qcd 113 101 = some (.aload_n 0, 1) := by decide +kernel
theorem c113_102 : qcd 113 102 = some (.getfield 134, 3) := by decide +kernel
theorem c113_105 : qcd 113 105 = some (.bipush 14, 2) := by decide +kernel
theorem c113_107 : qcd 113 107 = some (.aload_n 0, 1) := by decide +kernel
theorem c113_108 : qcd 113 108 = some (.getfield 202, 3) := by decide +kernel
theorem c113_111 : qcd 113 111 = some (.imul, 1) := by decide +kernel
theorem c113_112 : qcd 113 112 = some (.iload_n 1, 1) := by decide +kernel
theorem c113_113 : qcd 113 113 = some (.iadd, 1) := by decide +kernel
theorem c113_114 : qcd 113 114 = some (.aload_n 0, 1) := by decide +kernel
theorem c113_115 : qcd 113 115 = some (.iload_n 1, 1) := by decide +kernel
theorem c113_116 : qcd 113 116 = some (.invokevirtual 408, 3) := by decide +kernel
theorem c113_119 : qcd 113 119 = some (.l2i, 1) := by decide +kernel
theorem c113_120 : qcd 113 120 = some (.iastore, 1) := by decide +kernel
theorem c113_121 : qcd 113 121 = some (.iinc 1 1, 3) := by decide +kernel
theorem c113_124 : qcd 113 124 = some (.goto (-31), 3) := by decide +kernel
theorem c113_127 : qcd 113 127 = some (.iconst 0, 1) := by decide +kernel
theorem c113_128 : qcd 113 128 = some (.istore_n 1, 1) := by decide +kernel
theorem c113_129 : qcd 113 129 = some (.iload_n 1, 1) := by decide +kernel
theorem c113_130 : qcd 113 130 = some (.aload_n 0, 1) := by decide +kernel
theorem c113_131 : qcd 113 131 = some (.getfield 424, 3) := by decide +kernel
theorem c113_134 : qcd 113 134 = some (.if_icmp .ge 72, 3) := by decide +kernel
theorem c113_137 : qcd 113 137 = some (.aload_n 0, 1) := by decide +kernel
theorem c113_138 : qcd 113 138 = some (.getfield 461, 3) := by decide +kernel
theorem c113_141 : qcd 113 141 = some (.sipush 400, 3) := by decide +kernel
theorem c113_144 : qcd 113 144 = some (.if_icmp .ge 62, 3) := by decide +kernel
theorem c113_147 : qcd 113 147 = some (.aload_n 0, 1) := by decide +kernel
theorem c113_148 : qcd 113 148 = some (.getfield 140, 3) := by decide +kernel
theorem c113_151 : qcd 113 151 = some (.aload_n 0, 1) := by decide +kernel
theorem c113_152 : qcd 113 152 = some (.getfield 461, 3) := by decide +kernel
theorem c113_155 : qcd 113 155 = some (.aload_n 0, 1) := by decide +kernel
theorem c113_156 : qcd 113 156 = some (.getfield 125, 3) := by decide +kernel
theorem c113_159 : qcd 113 159 = some (.iload_n 1, 1) := by decide +kernel
theorem c113_160 : qcd 113 160 = some (.iaload, 1) := by decide +kernel
theorem c113_161 : qcd 113 161 = some (.iastore, 1) := by decide +kernel
theorem c113_162 : qcd 113 162 = some (.aload_n 0, 1) := by decide +kernel
theorem c113_163 : qcd 113 163 = some (.getfield 143, 3) := by decide +kernel
theorem c113_166 : qcd 113 166 = some (.aload_n 0, 1) := by decide +kernel
theorem c113_167 : qcd 113 167 = some (.getfield 461, 3) := by decide +kernel
theorem c113_170 : qcd 113 170 = some (.aload_n 0, 1) := by decide +kernel
theorem c113_171 : qcd 113 171 = some (.getfield 128, 3) := by decide +kernel
theorem c113_174 : qcd 113 174 = some (.iload_n 1, 1) := by decide +kernel
theorem c113_175 : qcd 113 175 = some (.iaload, 1) := by decide +kernel
theorem c113_176 : qcd 113 176 = some (.iastore, 1) := by decide +kernel
theorem c113_177 : qcd 113 177 = some (.aload_n 0, 1) := by decide +kernel
theorem c113_178 : qcd 113 178 = some (.getfield 146, 3) := by decide +kernel
theorem c113_181 : qcd 113 181 = some (.aload_n 0, 1) := by decide +kernel
theorem c113_182 : qcd 113 182 = some (.getfield 461, 3) := by decide +kernel
theorem c113_185 : qcd 113 185 = some (.aload_n 0, 1) := by decide +kernel
theorem c113_186 : qcd 113 186 = some (.getfield 202, 3) := by decide +kernel
theorem c113_189 : qcd 113 189 = some (.iastore, 1) := by decide +kernel
theorem c113_190 : qcd 113 190 = some (.aload_n 0, 1) := by decide +kernel
theorem c113_191 : qcd 113 191 = some (.dup, 1) := by decide +kernel
theorem c113_192 : qcd 113 192 = some (.getfield 461, 3) := by decide +kernel
theorem c113_195 : qcd 113 195 = some (.iconst 1, 1) := by decide +kernel
theorem c113_196 : qcd 113 196 = some (.iadd, 1) := by decide +kernel
theorem c113_197 : qcd 113 197 = some (.putfield 461, 3) := by decide +kernel
theorem c113_200 : qcd 113 200 = some (.iinc 1 1, 3) := by decide +kernel
theorem c113_203 : qcd 113 203 = some (.goto (-74), 3) := by decide +kernel
theorem c113_206 : qcd 113 206 = some (.iconst 0, 1) := by decide +kernel
theorem c113_207 : qcd 113 207 = some (.istore_n 1, 1) := by decide +kernel
theorem c113_208 : qcd 113 208 = some (.iload_n 1, 1) := by decide +kernel
theorem c113_209 : qcd 113 209 = some (.iconst 4, 1) := by decide +kernel
theorem c113_210 : qcd 113 210 = some (.if_icmp .ge 37, 3) := by decide +kernel
theorem c113_213 : qcd 113 213 = some (.aload_n 0, 1) := by decide +kernel
theorem c113_214 : qcd 113 214 = some (.getfield 155, 3) := by decide +kernel
theorem c113_217 : qcd 113 217 = some (.iload_n 1, 1) := by decide +kernel
theorem c113_218 : qcd 113 218 = some (.aload_n 0, 1) := by decide +kernel
theorem c113_219 : qcd 113 219 = some (.getfield 149, 3) := by decide +kernel
theorem c113_222 : qcd 113 222 = some (.iload_n 1, 1) := by decide +kernel
theorem c113_223 : qcd 113 223 = some (.baload, 1) := by decide +kernel
theorem c113_224 : qcd 113 224 = some (.ifCond .eq 12, 3) := by decide +kernel
theorem c113_227 : qcd 113 227 = some (.aload_n 0, 1) := by decide +kernel
theorem c113_228 : qcd 113 228 = some (.getfield 155, 3) := by decide +kernel
theorem c113_231 : qcd 113 231 = some (.iload_n 1, 1) := by decide +kernel
theorem c113_232 : qcd 113 232 = some (.iaload, 1) := by decide +kernel
theorem c113_233 : qcd 113 233 = some (.goto 7, 3) := by decide +kernel
theorem c113_236 : qcd 113 236 = some (.aload_n 0, 1) := by decide +kernel
theorem c113_237 : qcd 113 237 = some (.getfield 202, 3) := by decide +kernel
theorem c113_240 : qcd 113 240 = some (.iastore, 1) := by decide +kernel
theorem c113_241 : qcd 113 241 = some (.iinc 1 1, 3) := by decide +kernel
theorem c113_244 : qcd 113 244 = some (.goto (-36), 3) := by decide +kernel
theorem c113_247 : qcd 113 247 = some (.aload_n 0, 1) := by decide +kernel
theorem c113_248 : qcd 113 248 = some (.dup, 1) := by decide +kernel
theorem c113_249 : qcd 113 249 = some (.getfield 202, 3) := by decide +kernel
theorem c113_252 : qcd 113 252 = some (.iconst 1, 1) := by decide +kernel
theorem c113_253 : qcd 113 253 = some (.iadd, 1) := by decide +kernel
theorem c113_254 : qcd 113 254 = some (.putfield 202, 3) := by decide +kernel
theorem c113_257 : qcd 113 257 = some (.aload_n 0, 1) := by decide +kernel
theorem c113_258 : qcd 113 258 = some (.getfield 424, 3) := by decide +kernel
theorem c113_261 : qcd 113 261 = some (.ireturn, 1) := by decide +kernel
theorem c114_0 : qcd 114 0 = some (.aload_n 0, 1) := by decide +kernel
theorem c114_1 : qcd 114 1 = some (.invokevirtual 315, 3) := by decide +kernel
theorem c114_4 : qcd 114 4 = some (.istore_n 1, 1) := by decide +kernel
theorem c114_5 : qcd 114 5 = some (.iload_n 1, 1) := by decide +kernel
theorem c114_6 : qcd 114 6 = some (.bipush 38, 2) := by decide +kernel
theorem c114_8 : qcd 114 8 = some (.if_icmp .eq 9, 3) := by decide +kernel
theorem c114_11 : qcd 114 11 = some (.iload_n 1, 1) := by decide +kernel
theorem c114_12 : qcd 114 12 = some (.bipush 124, 2) := by decide +kernel
theorem c114_14 : qcd 114 14 = some (.if_icmp .ne 25, 3) := by decide +kernel
theorem c114_17 : qcd 114 17 = some (.aload_n 0, 1) := by decide +kernel
theorem c114_18 : qcd 114 18 = some (.iload_n 1, 1) := by decide +kernel
theorem c114_19 : qcd 114 19 = some (.bipush 124, 2) := by decide +kernel
theorem c114_21 : qcd 114 21 = some (.if_icmp .ne 7, 3) := by decide +kernel
theorem c114_24 : qcd 114 24 = some (.iconst 1, 1) := by decide +kernel
theorem c114_25 : qcd 114 25 = some (.goto 4, 3) := by decide +kernel
theorem c114_28 : qcd 114 28 = some (.iconst 0, 1) := by decide +kernel
theorem c114_29 : qcd 114 29 = some (.invokevirtual 373, 3) := by decide +kernel
theorem c114_32 : qcd 114 32 = some (.aload_n 0, 1) := by decide +kernel
theorem c114_33 : qcd 114 33 = some (.iload_n 1, 1) := by decide +kernel
theorem c114_34 : qcd 114 34 = some (.invokevirtual 319, 3) := by decide +kernel
theorem c114_37 : qcd 114 37 = some (.iconst 1, 1) := by decide +kernel
theorem c114_38 : qcd 114 38 = some (.ireturn, 1) := by decide +kernel
theorem c114_39 : qcd 114 39 = some (.iload_n 1, 1) := by decide +kernel
theorem c114_40 : qcd 114 40 = some (.bipush 41, 2) := by decide +kernel
theorem c114_42 : qcd 114 42 = some (.if_icmp .eq 14, 3) := by decide +kernel
theorem c114_45 : qcd 114 45 = some (.aload_n 0, 1) := by decide +kernel
theorem c114_46 : qcd 114 46 = some (.iconst 1, 1) := by decide +kernel
theorem c114_47 : qcd 114 47 = some (.aload_n 0, 1) := by decide +kernel
theorem c114_48 : qcd 114 48 = some (.getfield 290, 3) := by decide +kernel
theorem c114_51 : qcd 114 51 = some (.invokevirtual 312, 3) := by decide +kernel
theorem c114_54 : qcd 114 54 = some (.iconst 0, 1) := by decide +kernel
theorem c114_55 : qcd 114 55 = some (.ireturn, 1) := by decide +kernel
theorem c114_56 : qcd 114 56 = some (.aload_n 0, 1) := by decide +kernel
theorem c114_57 : qcd 114 57 = some (.iconst 1, 1) := by decide +kernel
theorem c114_58 : qcd 114 58 = some (.invokevirtual 373, 3) := by decide +kernel
theorem c114_61 : qcd 114 61 = some (.aload_n 0, 1) := by decide +kernel
theorem c114_62 : qcd 114 62 = some (.dup, 1) := by decide +kernel
theorem c114_63 : qcd 114 63 = some (.getfield 306, 3) := by decide +kernel
theorem c114_66 : qcd 114 66 = some (.iconst 1, 1) := by decide +kernel
theorem c114_67 : qcd 114 67 = some (.isub, 1) := by decide +kernel
theorem c114_68 : qcd 114 68 = some (.putfield 306, 3) := by decide +kernel
theorem c114_71 : qcd 114 71 = some (.aload_n 0, 1) := by decide +kernel
theorem c114_72 : qcd 114 72 = some (.dup, 1) := by decide +kernel
theorem c114_73 : qcd 114 73 = some (.getfield 309, 3) := by decide +kernel
theorem c114_76 : qcd 114 76 = some (.iconst 1, 1) := by decide +kernel
theorem c114_77 : qcd 114 77 = some (.isub, 1) := by decide +kernel
theorem c114_78 : qcd 114 78 = some (.putfield 309, 3) := by decide +kernel
theorem c114_81 : qcd 114 81 = some (.aload_n 0, 1) := by decide +kernel
theorem c114_82 : qcd 114 82 = some (.dup, 1) := by decide +kernel
theorem c114_83 : qcd 114 83 = some (.getfield 290, 3) := by decide +kernel
theorem c114_86 : qcd 114 86 = some (.iconst 1, 1) := by decide +kernel
theorem c114_87 : qcd 114 87 = some (.iadd, 1) := by decide +kernel
theorem c114_88 : qcd 114 88 = some (.putfield 290, 3) := by decide +kernel
theorem c114_91 : qcd 114 91 = some (.aload_n 0, 1) := by decide +kernel
theorem c114_92 : qcd 114 92 = some (.aload_n 0, 1) := by decide +kernel
theorem c114_93 : qcd 114 93 = some (.getfield 306, 3) := by decide +kernel
theorem c114_96 : qcd 114 96 = some (.ifCond .ne 7, 3) := by decide +kernel
theorem c114_99 : qcd 114 99 = some (.iconst 1, 1) := by decide +kernel
theorem c114_100 : qcd 114 100 = some (.goto 4, 3) := by decide +kernel
theorem c114_103 : qcd 114 103 = some (.iconst 0, 1) := by decide +kernel
theorem c114_104 : qcd 114 104 = some (.putfield 376, 3) := by decide +kernel
theorem c114_107 : qcd 114 107 = some (.aload_n 0, 1) := by decide +kernel
theorem c114_108 : qcd 114 108 = some (.getfield 376, 3) := by decide +kernel
theorem c114_111 : qcd 114 111 = some (.ifCond .ne 7, 3) := by decide +kernel
theorem c114_114 : qcd 114 114 = some (.aload_n 0, 1) := by decide +kernel
theorem c114_115 : qcd 114 115 = some (.invokevirtual 370, 3) := by decide +kernel
theorem c114_118 : qcd 114 118 = some (.iconst 0, 1) := by decide +kernel
theorem c114_119 : qcd 114 119 = some (.ireturn, 1) := by decide +kernel
theorem c115_0 : qcd 115 0 = some (.aload_n 0, 1) := by decide +kernel
theorem c115_1 : qcd 115 1 = some (.iload_n 1, 1) := by decide +kernel
theorem c115_2 : qcd 115 2 = some (.iload_n 2, 1) := by decide +kernel
theorem c115_3 : qcd 115 3 = some (.invokevirtual 235, 3) := by decide +kernel
theorem c115_6 : qcd 115 6 = some (.ineg, 1) := by decide +kernel
theorem c115_7 : qcd 115 7 = some (.i2l, 1) := by decide +kernel
theorem c115_8 : qcd 115 8 = some (.lstore_n 3, 1) := by decide +kernel
theorem c115_9 : qcd 115 9 = some (.iconst 0, 1) := by decide +kernel
theorem c115_10 : qcd 115 10 = some (.istore 5, 2) := by decide +kernel
theorem c115_12 : qcd 115 12 = some (.iload 5, 2) := by decide +kernel
theorem c115_14 : qcd 115 14 = some (.aload_n 0, 1) := by decide +kernel
theorem c115_15 : qcd 115 15 = some (.getfield 197, 3) := by decide +kernel
theorem c115_18 : qcd 115 18 = some (.if_icmp .ge 35, 3) := by decide +kernel
theorem c115_21 : qcd 115 21 = some (.lload_n 3, 1) := by decide +kernel
theorem c115_22 : qcd 115 22 = some (.aload_n 0, 1) := by decide +kernel
theorem c115_23 : qcd 115 23 = some (.getfield 42, 3) := by decide +kernel
theorem c115_26 : qcd 115 26 = some (.iload 5, 2) := by decide +kernel
theorem c115_28 : qcd 115 28 = some (.iaload, 1) := by decide +kernel
theorem c115_29 : qcd 115 29 = some (.iload_n 2, 1) := by decide +kernel
theorem c115_30 : qcd 115 30 = some (.if_icmp .ne 14, 3) := by decide +kernel
theorem c115_33 : qcd 115 33 = some (.aload_n 0, 1) := by decide +kernel
theorem c115_34 : qcd 115 34 = some (.getfield 61, 3) := by decide +kernel
theorem c115_37 : qcd 115 37 = some (.iload 5, 2) := by decide +kernel
theorem c115_39 : qcd 115 39 = some (.iaload, 1) := by decide +kernel
theorem c115_40 : qcd 115 40 = some (.i2l, 1) := by decide +kernel
theorem c115_41 : qcd 115 41 = some (.goto 4, 3) := by decide +kernel
theorem c115_44 : qcd 115 44 = some (.lconst 0, 1) := by decide +kernel
theorem c115_45 : qcd 115 45 = some (.ladd, 1) := by decide +kernel
theorem c115_46 : qcd 115 46 = some (.lstore_n 3, 1) := by decide +kernel
theorem c115_47 : qcd 115 47 = some (.iinc 5 1, 3) := by decide +kernel
theorem c115_50 : qcd 115 50 = some (.goto (-38), 3) := by decide +kernel
theorem c115_53 : qcd 115 53 = some (.lload_n 3, 1) := by decide +kernel
theorem c115_54 : qcd 115 54 = some (.lreturn, 1) := by decide +kernel
theorem c116_0 : qcd 116 0 = some (.aload_n 0, 1) := by decide +kernel
theorem c116_1 : qcd 116 1 = some (.invokevirtual 315, 3) := by decide +kernel
theorem c116_4 : qcd 116 4 = some (.istore_n 1, 1) := by decide +kernel
theorem c116_5 : qcd 116 5 = some (.iload_n 1, 1) := by decide +kernel
theorem c116_6 : qcd 116 6 = some (.invokestatic 335, 3) := by decide +kernel
theorem c116_9 : qcd 116 9 = some (.ifCond .ne 10, 3) := by decide +kernel
theorem c116_12 : qcd 116 12 = some (.iload_n 1, 1) := by decide +kernel
theorem c116_13 : qcd 116 13 = some (.invokestatic 338, 3) := by decide +kernel
theorem c116_16 : qcd 116 16 = some (.ifCond .eq 18, 3) := by decide +kernel
theorem c116_19 : qcd 116 19 = some (.aload_n 0, 1) := by decide +kernel
theorem c116_20 : qcd 116 20 = some (.iload_n 1, 1) := by decide +kernel
theorem c116_21 : qcd 116 21 = some (.invokestatic 338, 3) := by decide +kernel
theorem c116_24 : qcd 116 24 = some (.invokevirtual 353, 3) := by decide +kernel
theorem c116_27 : qcd 116 27 = some (.aload_n 0, 1) := by decide +kernel
theorem c116_28 : qcd 116 28 = some (.iload_n 1, 1) := by decide +kernel
theorem c116_29 : qcd 116 29 = some (.invokevirtual 319, 3) := by decide +kernel
theorem c116_32 : qcd 116 32 = some (.iconst 1, 1) := by decide +kernel
theorem c116_33 : qcd 116 33 = some (.ireturn, 1) := by decide +kernel
theorem c116_34 : qcd 116 34 = some (.aload_n 0, 1) := by decide +kernel
theorem c116_35 : qcd 116 35 = some (.iconst 1, 1) := by decide +kernel
theorem c116_36 : qcd 116 36 = some (.invokevirtual 353, 3) := by decide +kernel
theorem c116_39 : qcd 116 39 = some (.iload_n 1, 1) := by decide +kernel
theorem c116_40 : qcd 116 40 = some (.bipush 93, 2) := by decide +kernel
theorem c116_42 : qcd 116 42 = some (.if_icmp .ne 60, 3) := by decide +kernel
theorem c116_45 : qcd 116 45 = some (.aload_n 0, 1) := by decide +kernel
theorem c116_46 : qcd 116 46 = some (.invokevirtual 332, 3) := by decide +kernel
theorem c116_49 : qcd 116 49 = some (.bipush 91, 2) := by decide +kernel
theorem c116_51 : qcd 116 51 = some (.if_icmp .eq 14, 3) := by decide +kernel
theorem c116_54 : qcd 116 54 = some (.aload_n 0, 1) := by decide +kernel
theorem c116_55 : qcd 116 55 = some (.iconst 1, 1) := by decide +kernel
theorem c116_56 : qcd 116 56 = some (.aload_n 0, 1) := by decide +kernel
theorem c116_57 : qcd 116 57 = some (.getfield 290, 3) := by decide +kernel
theorem c116_60 : qcd 116 60 = some (.invokevirtual 312, 3) := by decide +kernel
theorem c116_63 : qcd 116 63 = some (.iconst 0, 1) := by decide +kernel
theorem c116_64 : qcd 116 64 = some (.ireturn, 1) := by decide +kernel
theorem c116_65 : qcd 116 65 = some (.aload_n 0, 1) := by decide +kernel
theorem c116_66 : qcd 116 66 = some (.dup, 1) := by decide +kernel
theorem c116_67 : qcd 116 67 = some (.getfield 306, 3) := by decide +kernel
theorem c116_70 : qcd 116 70 = some (.iconst 1, 1) := by decide +kernel
theorem c116_71 : qcd 116 71 = some (.isub, 1) := by decide +kernel
theorem c116_72 : qcd 116 72 = some (.putfield 306, 3) := by decide +kernel
theorem c116_75 : qcd 116 75 = some (.aload_n 0, 1) := by decide +kernel
theorem c116_76 : qcd 116 76 = some (.dup, 1) := by decide +kernel
theorem c116_77 : qcd 116 77 = some (.getfield 309, 3) := by decide +kernel
theorem c116_80 : qcd 116 80 = some (.iconst 1, 1) := by decide +kernel
theorem c116_81 : qcd 116 81 = some (.isub, 1) := by decide +kernel
theorem c116_82 : qcd 116 82 = some (.putfield 309, 3) := by decide +kernel
theorem c116_85 : qcd 116 85 = some (.aload_n 0, 1) := by decide +kernel
theorem c116_86 : qcd 116 86 = some (.dup, 1) := by decide +kernel
theorem c116_87 : qcd 116 87 = some (.getfield 290, 3) := by decide +kernel
theorem c116_90 : qcd 116 90 = some (.iconst 1, 1) := by decide +kernel
theorem c116_91 : qcd 116 91 = some (.iadd, 1) := by decide +kernel
theorem c116_92 : qcd 116 92 = some (.putfield 290, 3) := by decide +kernel
theorem c116_95 : qcd 116 95 = some (.aload_n 0, 1) := by decide +kernel
theorem c116_96 : qcd 116 96 = some (.iconst 1, 1) := by decide +kernel
theorem c116_97 : qcd 116 97 = some (.putfield 357, 3) := by decide +kernel
theorem c116_100 : qcd 116 100 = some (.iconst 1, 1) := by decide +kernel
theorem c116_101 : qcd 116 101 = some (.ireturn, 1) := by decide +kernel
theorem c116_102 : qcd 116 102 = some (.iload_n 1, 1) := by decide +kernel
theorem c116_103 : qcd 116 103 = some (.invokestatic 361, 3) := by decide +kernel
theorem c116_106 : qcd 116 106 = some (.ifCond .eq 38, 3) := by decide +kernel
theorem c116_109 : qcd 116 109 = some (.aload_n 0, 1) := by decide +kernel
theorem c116_110 : qcd 116 110 = some (.invokevirtual 332, 3) := by decide +kernel
theorem c116_113 : qcd 116 113 = some (.bipush 91, 2) := by decide +kernel
theorem c116_115 : qcd 116 115 = some (.if_icmp .eq 13, 3) := by decide +kernel
theorem c116_118 : qcd 116 118 = some (.aload_n 0, 1) := by decide +kernel
theorem c116_119 : qcd 116 119 = some (.invokevirtual 332, 3) := by decide +kernel
theorem c116_122 : qcd 116 122 = some (.invokestatic 361, 3) := by decide +kernel
theorem c116_125 : qcd 116 125 = some (.ifCond .eq 12, 3) := by decide +kernel
theorem c116_128 : qcd 116 128 = some (.aload_n 0, 1) := by decide +kernel
theorem c116_129 : qcd 116 129 = some (.iconst 1, 1) := by decide +kernel
theorem c116_130 : qcd 116 130 = some (.aload_n 0, 1) := by decide +kernel
theorem c116_131 : qcd 116 131 = some (.getfield 290, 3) := by decide +kernel
theorem c116_134 : qcd 116 134 = some (.invokevirtual 312, 3) := by decide +kernel
theorem c116_137 : qcd 116 137 = some (.aload_n 0, 1) := by decide +kernel
theorem c116_138 : qcd 116 138 = some (.iload_n 1, 1) := by decide +kernel
theorem c116_139 : qcd 116 139 = some (.invokevirtual 319, 3) := by decide +kernel
theorem c116_142 : qcd 116 142 = some (.iconst 1, 1) := by decide +kernel
theorem c116_143 : qcd 116 143 = some (.ireturn, 1) := by decide +kernel
theorem c116_144 : qcd 116 144 = some (.aload_n 0, 1) := by decide +kernel
theorem c116_145 : qcd 116 145 = some (.invokevirtual 332, 3) := by decide +kernel
theorem c116_148 : qcd 116 148 = some (.invokestatic 361, 3) := by decide +kernel
theorem c116_151 : qcd 116 151 = some (.ifCond .eq 25, 3) := by decide +kernel
theorem c116_154 : qcd 116 154 = some (.aload_n 0, 1) := by decide +kernel
theorem c116_155 : qcd 116 155 = some (.aload_n 0, 1) := by decide +kernel
theorem c116_156 : qcd 116 156 = some (.invokevirtual 332, 3) := by decide +kernel
theorem c116_159 : qcd 116 159 = some (.iconst 0, 1) := by decide +kernel
theorem c116_160 : qcd 116 160 = some (.invokevirtual 341, 3) := by decide +kernel
theorem c116_163 : qcd 116 163 = some (.aload_n 0, 1) := by decide +kernel
theorem c116_164 : qcd 116 164 = some (.dup, 1) := by decide +kernel
theorem c116_165 : qcd 116 165 = some (.getfield 306, 3) := by decide +kernel
theorem c116_168 : qcd 116 168 = some (.iconst 1, 1) := by decide +kernel
theorem c116_169 : qcd 116 169 = some (.isub, 1) := by decide +kernel
theorem c116_170 : qcd 116 170 = some (.putfield 306, 3) := by decide +kernel
theorem c116_173 : qcd 116 173 = some (.goto 12, 3) := by decide +kernel
theorem c116_176 : qcd 116 176 = some (.aload_n 0, 1) := by decide +kernel
theorem c116_177 : qcd 116 177 = some (.iconst 1, 1) := by decide +kernel
theorem c116_178 : qcd 116 178 = some (.aload_n 0, 1) := by decide +kernel
theorem c116_179 : qcd 116 179 = some (.getfield 290, 3) := by decide +kernel
theorem c116_182 : qcd 116 182 = some (.invokevirtual 312, 3) := by decide +kernel
theorem c116_185 : qcd 116 185 = some (.iconst 0, 1) := by decide +kernel
theorem c116_186 : qcd 116 186 = some (.ireturn, 1) := by decide +kernel
theorem c117_0 : qcd 117 0 = some (.iconst 0, 1) := by decide +kernel
theorem c117_1 : qcd 117 1 = some (.istore_n 3, 1) := by decide +kernel
theorem c117_2 : qcd 117 2 = some (.iload_n 3, 1) := by decide +kernel
theorem c117_3 : qcd 117 3 = some (.bipush 8, 2) := by decide +kernel
theorem c117_5 : qcd 117 5 = some (.if_icmp .ge 16, 3) := by decide +kernel
theorem c117_8 : qcd 117 8 = some (.aload_n 0, 1) := by decide +kernel
theorem c117_9 : qcd 117 9 = some (.getfield 58, 3) := by decide +kernel
theorem c117_12 : qcd 117 12 = some (.iload_n 3, 1) := by decide +kernel
theorem c117_13 : qcd 117 13 = some (.iload_n 3, 1) := by decide +kernel
theorem c117_14 : qcd 117 14 = some (.iastore, 1) := by decide +kernel
theorem c117_15 : qcd 117 15 = some (.iinc 3 1, 3) := by decide +kernel
theorem c117_18 : qcd 117 18 = some (.goto (-16), 3) := by decide +kernel
theorem c117_21 : qcd 117 21 = some (.iconst 0, 1) := by decide +kernel
theorem c117_22 : qcd 117 22 = some (.istore_n 3, 1) := by decide +kernel
theorem c117_23 : qcd 117 23 = some (.iload_n 3, 1) := by decide +kernel
theorem c117_24 : qcd 117 24 = some (.bipush 8, 2) := by decide +kernel
theorem c117_26 : qcd 117 26 = some (.if_icmp .ge 134, 3) := by decide +kernel
theorem c117_29 : qcd 117 29 = some (.iconst 0, 1) := by decide +kernel
theorem c117_30 : qcd 117 30 = some (.istore 4, 2) := by decide +kernel
theorem c117_32 : qcd 117 32 = some (.iload 4, 2) := by decide +kernel
theorem c117_34 : qcd 117 34 = some (.aload_n 0, 1) := by decide +kernel
theorem c117_35 : qcd 117 35 = some (.getfield 194, 3) := by decide +kernel
theorem c117_38 : qcd 117 38 = some (.if_icmp .ge 116, 3) := by decide +kernel
theorem c117_41 : qcd 117 41 = some (.iload_n 2, 1) := by decide +kernel
theorem c117_42 : qcd 117 42 = some (.ifCond .eq 19, 3) := by decide +kernel
theorem c117_45 : qcd 117 45 = some (.aload_n 0, 1) := by decide +kernel
theorem c117_46 : qcd 117 46 = some (.getfield 14, 3) := by decide +kernel
theorem c117_49 : qcd 117 49 = some (.iload_n 1, 1) := by decide +kernel
theorem c117_50 : qcd 117 50 = some (.iload 4, 2) := by decide +kernel
theorem c117_52 : qcd 117 52 = some (.iadd, 1) := by decide +kernel
theorem c117_53 : qcd 117 53 = some (.iaload, 1) := by decide +kernel
theorem c117_54 : qcd 117 54 = some (.iconst 3, 1) := by decide +kernel
theorem c117_55 : qcd 117 55 = some (.if_icmp .ne 21, 3) := by decide +kernel
theorem c117_58 : qcd 117 58 = some (.goto 90, 3) := by decide +kernel
theorem c117_61 : qcd 117 61 = some (.aload_n 0, 1) := by decide +kernel
theorem c117_62 : qcd 117 62 = some (.getfield 14, 3) := by decide +kernel
theorem c117_65 : qcd 117 65 = some (.iload_n 1, 1) := by decide +kernel
theorem c117_66 : qcd 117 66 = some (.iload 4, 2) := by decide +kernel
theorem c117_68 : qcd 117 68 = some (.iadd, 1) := by decide +kernel
theorem c117_69 : qcd 117 69 = some (.iaload, 1) := by decide +kernel
theorem c117_70 : qcd 117 70 = some (.ifCond .eq 6, 3) := by decide +kernel
theorem c117_73 : qcd 117 73 = some (.goto 75, 3) := by decide +kernel
theorem c117_76 : qcd 117 76 = some (.aload_n 0, 1) := by decide +kernel
theorem c117_77 : qcd 117 77 = some (.getfield 58, 3) := by decide +kernel
theorem c117_80 : qcd 117 80 = some (.aload_n 0, 1) := by decide +kernel
theorem c117_81 : qcd 117 81 = some (.getfield 24, 3) := by decide +kernel
theorem c117_84 : qcd 117 84 = some (.iload 4, 2) := by decide +kernel
theorem c117_86 : qcd 117 86 = some (.iaload, 1) := by decide +kernel
theorem c117_87 : qcd 117 87 = some (.iaload, 1) := by decide +kernel
theorem c117_88 : qcd 117 88 = some (.istore 5, 2) := by decide +kernel
theorem c117_90 : qcd 117 90 = some (.aload_n 0, 1) := by decide +kernel
theorem c117_91 : qcd 117 91 = some (.getfield 58, 3) := by decide +kernel
theorem c117_94 : qcd 117 94 = some (.aload_n 0, 1) := by decide +kernel
theorem c117_95 : qcd 117 95 = some (.getfield 27, 3) := by decide +kernel
theorem c117_98 : qcd 117 98 = some (.iload 4, 2) := by decide +kernel
theorem c117_100 : qcd 117 100 = some (.iaload, 1) := by decide +kernel
theorem c117_101 : qcd 117 101 = some (.iaload, 1) := by decide +kernel
theorem c117_102 : qcd 117 102 = some (.istore 6, 2) := by decide +kernel
theorem c117_104 : qcd 117 104 = some (.iload 5, 2) := by decide +kernel
theorem c117_106 : qcd 117 106 = some (.iload 6, 2) := by decide +kernel
theorem c117_108 : qcd 117 108 = some (.if_icmp .ge 8, 3) := by decide +kernel
theorem c117_111 : qcd 117 111 = some (.iload 5, 2) := by decide +kernel
theorem c117_113 : qcd 117 113 = some (.goto 5, 3) := by decide +kernel
theorem c117_116 : qcd 117 116 = some (.iload 6, 2) := by decide +kernel
theorem c117_118 : qcd 117 118 = some (.istore 7, 2) := by decide +kernel
theorem c117_120 : qcd 117 120 = some (.aload_n 0, 1) := by decide +kernel
theorem c117_121 : qcd 117 121 = some (.getfield 58, 3) := by decide +kernel
theorem c117_124 : qcd 117 124 = some (.aload_n 0, 1) := by decide +kernel
theorem c117_125 : qcd 117 125 = some (.getfield 24, 3) := by decide +kernel
theorem c117_128 : qcd 117 128 = some (.iload 4, 2) := by decide +kernel
theorem c117_130 : qcd 117 130 = some (.iaload, 1) := by decide +kernel
theorem c117_131 : qcd 117 131 = some (.iload 7, 2) := by decide +kernel
theorem c117_133 : qcd 117 133 = some (.iastore, 1) := by decide +kernel
theorem c117_134 : qcd 117 134 = some (.aload_n 0, 1) := by decide +kernel
theorem c117_135 : qcd 117 135 = some (.getfield 58, 3) := by decide +kernel
theorem c117_138 : qcd 117 138 = some (.aload_n 0, 1) := by decide +kernel
theorem c117_139 : qcd 117 139 = some (.getfield 27, 3) := by decide +kernel
theorem c117_142 : qcd 117 142 = some (.iload 4, 2) := by decide +kernel
theorem c117_144 : qcd 117 144 = some (.iaload, 1) := by decide +kernel
theorem c117_145 : qcd 117 145 = some (.iload 7, 2) := by decide +kernel
theorem c117_147 : qcd 117 147 = some (.iastore, 1) := by decide +kernel
theorem c117_148 : qcd 117 148 = some (.iinc 4 1, 3) := by decide +kernel
theorem c117_151 : qcd 117 151 = some (.goto (-119), 3) := by decide +kernel
theorem c117_154 : qcd 117 154 = some (.iinc 3 1, 3) := by decide +kernel
theorem c117_157 : qcd 117 157 = some (.goto (-134), 3) := by decide +kernel
theorem c117_160 : qcd 117 160 = some (.return_, 1) := by decide +kernel
theorem c118_0 : qcd 118 0 = some (.iload_n 0, 1) := by decide +kernel
theorem c118_1 : qcd 118 1 = some (.iload_n 1, 1) := by decide +kernel
theorem c118_2 : qcd 118 2 = some (.ishr, 1) := by decide +kernel
theorem c118_3 : qcd 118 3 = some (.iconst 1, 1) := by decide +kernel
theorem c118_4 : qcd 118 4 = some (.iand, 1) := by decide +kernel
theorem c118_5 : qcd 118 5 = some (.iconst 1, 1) := by decide +kernel
theorem c118_6 : qcd 118 6 = some (.if_icmp .ne 7, 3) := by decide +kernel
theorem c118_9 : qcd 118 9 = some (.iconst 1, 1) := by decide +kernel
theorem c118_10 : qcd 118 10 = some (.goto 4, 3) := by decide +kernel
theorem c118_13 : qcd 118 13 = some (.iconst 0, 1) := by decide +kernel
theorem c118_14 : qcd 118 14 = some (.ireturn, 1) := by decide +kernel
theorem c119_0 : qcd 119 0 = some (.iload_n 1, 1) := by decide +kernel
theorem c119_1 : qcd 119 1 = some (.i2l, 1) := by decide +kernel
theorem c119_2 : qcd 119 2 = some (.lconst 0, 1) := by decide +kernel
theorem c119_3 : qcd 119 3 = some (.aload_n 0, 1) := by decide +kernel
theorem c119_4 : qcd 119 4 = some (.getfield 202, 3) := by decide +kernel
theorem c119_7 : qcd 119 7 = some (.i2l, 1) := by decide +kernel
theorem c119_8 : qcd 119 8 = some (.invokestatic 190, 3) := by decide +kernel
theorem c119_11 : qcd 119 11 = some (.ifCond .eq 36, 3) := by decide +kernel
theorem c119_14 : qcd 119 14 = some (.aload_n 0, 1) := by decide +kernel
theorem c119_15 : qcd 119 15 = some (.iload_n 2, 1) := by decide +kernel
theorem c119_16 : qcd 119 16 = some (.invokevirtual 490, 3) := by decide +kernel
theorem c119_19 : qcd 119 19 = some (.ifCond .eq 28, 3) := by decide +kernel
theorem c119_22 : qcd 119 22 = some (.iload_n 3, 1) := by decide +kernel
theorem c119_23 : qcd 119 23 = some (.invokestatic 493, 3) := by decide +kernel
theorem c119_26 : qcd 119 26 = some (.ifCond .eq 21, 3) := by decide +kernel
theorem c119_29 : qcd 119 29 = some (.aload_n 0, 1) := by decide +kernel
theorem c119_30 : qcd 119 30 = some (.iload_n 1, 1) := by decide +kernel
theorem c119_31 : qcd 119 31 = some (.iload_n 2, 1) := by decide +kernel
theorem c119_32 : qcd 119 32 = some (.iload_n 3, 1) := by decide +kernel
theorem c119_33 : qcd 119 33 = some (.invokevirtual 496, 3) := by decide +kernel
theorem c119_36 : qcd 119 36 = some (.ifCond .eq 7, 3) := by decide +kernel
theorem c119_39 : qcd 119 39 = some (.iconst 1, 1) := by decide +kernel
theorem c119_40 : qcd 119 40 = some (.goto 8, 3) := by decide +kernel
theorem c119_43 : qcd 119 43 = some (.iconst 0, 1) := by decide +kernel
theorem c119_44 : qcd 119 44 = some (.goto 4, 3) := by decide +kernel
theorem c119_47 : qcd 119 47 = some (.iconst (-1), 1) := by decide +kernel
theorem c119_48 : qcd 119 48 = some (.ireturn, 1) := by decide +kernel
theorem c120_0 : qcd 120 0 = some (.aload_n 0, 1) := by decide +kernel
theorem c120_1 : qcd 120 1 = some (.getfield 290, 3) := by decide +kernel
theorem c120_4 : qcd 120 4 = some (.aload_n 0, 1) := by decide +kernel
theorem c120_5 : qcd 120 5 = some (.getfield 293, 3) := by decide +kernel
theorem c120_8 : qcd 120 8 = some (.if_icmp .ge 19, 3) := by decide +kernel
theorem c120_11 : qcd 120 11 = some (.aload_n 0, 1) := by decide +kernel
theorem c120_12 : qcd 120 12 = some (.getfield 7, 3) := by decide +kernel
theorem c120_15 : qcd 120 15 = some (.aload_n 0, 1) := by decide +kernel
theorem c120_16 : qcd 120 16 = some (.getfield 290, 3) := by decide +kernel
theorem c120_19 : qcd 120 19 = some (.baload, 1) := by decide +kernel
theorem c120_20 : qcd 120 20 = some (.sipush 255, 3) := by decide +kernel
theorem c120_23 : qcd 120 23 = some (.iand, 1) := by decide +kernel
theorem c120_24 : qcd 120 24 = some (.goto 4, 3) := by decide +kernel
theorem c120_27 : qcd 120 27 = some (.iconst 0, 1) := by decide +kernel
theorem c120_28 : qcd 120 28 = some (.ireturn, 1) := by decide +kernel
theorem c121_0 : qcd 121 0 = some (.iconst 0, 1) := by decide +kernel
theorem c121_1 : qcd 121 1 = some (.istore_n 2, 1) := by decide +kernel
theorem c121_2 : qcd 121 2 = some (.aload_n 0, 1) := by decide +kernel
theorem c121_3 : qcd 121 3 = some (.getfield 89, 3) := by decide +kernel
theorem c121_6 : qcd 121 6 = some (.iload_n 1, 1) := by decide +kernel
theorem c121_7 : qcd 121 7 = some (.iaload, 1) := by decide +kernel
theorem c121_8 : qcd 121 8 = some (.istore_n 3, 1) := by decide +kernel
theorem c121_9 : qcd 121 9 = some (.iload_n 3, 1) := by decide +kernel
theorem c121_10 : qcd 121 10 = some (.aload_n 0, 1) := by decide +kernel
theorem c121_11 : qcd 121 11 = some (.getfield 92, 3) := by decide +kernel
theorem c121_14 : qcd 121 14 = some (.iload_n 1, 1) := by decide +kernel
theorem c121_15 : qcd 121 15 = some (.iaload, 1) := by decide +kernel
theorem c121_16 : qcd 121 16 = some (.if_icmp .ge 114, 3) := by decide +kernel
theorem c121_19 : qcd 121 19 = some (.aload_n 0, 1) := by decide +kernel
theorem c121_20 : qcd 121 20 = some (.getfield 95, 3) := by decide +kernel
theorem c121_23 : qcd 121 23 = some (.iload_n 3, 1) := by decide +kernel
theorem c121_24 : qcd 121 24 = some (.iaload, 1) := by decide +kernel
theorem c121_25 : qcd 121 25 = some (.iconst 2, 1) := by decide +kernel
theorem c121_26 : qcd 121 26 = some (.if_icmp .le 22, 3) := by decide +kernel
theorem c121_29 : qcd 121 29 = some (.iinc 2 (-1), 3) := by decide +kernel
theorem c121_32 : qcd 121 32 = some (.aload_n 0, 1) := by decide +kernel
theorem c121_33 : qcd 121 33 = some (.aload_n 0, 1) := by decide +kernel
theorem c121_34 : qcd 121 34 = some (.getfield 95, 3) := by decide +kernel
theorem c121_37 : qcd 121 37 = some (.iload_n 3, 1) := by decide +kernel
theorem c121_38 : qcd 121 38 = some (.iaload, 1) := by decide +kernel
theorem c121_39 : qcd 121 39 = some (.iload_n 2, 1) := by decide +kernel
theorem c121_40 : qcd 121 40 = some (.iconst 1, 1) := by decide +kernel
theorem c121_41 : qcd 121 41 = some (.isub, 1) := by decide +kernel
theorem c121_42 : qcd 121 42 = some (.invokevirtual 415, 3) := by decide +kernel
theorem c121_45 : qcd 121 45 = some (.goto 79, 3) := by decide +kernel
theorem c121_48 : qcd 121 48 = some (.aload_n 0, 1) := by decide +kernel
theorem c121_49 : qcd 121 49 = some (.getfield 95, 3) := by decide +kernel
theorem c121_52 : qcd 121 52 = some (.iload_n 3, 1) := by decide +kernel
theorem c121_53 : qcd 121 53 = some (.iaload, 1) := by decide +kernel
theorem c121_54 : qcd 121 54 = some (.iconst 2, 1) := by decide +kernel
theorem c121_55 : qcd 121 55 = some (.if_icmp .ne 24, 3) := by decide +kernel
theorem c121_58 : qcd 121 58 = some (.aload_n 0, 1) := by decide +kernel
theorem c121_59 : qcd 121 59 = some (.getfield 119, 3) := by decide +kernel
theorem c121_62 : qcd 121 62 = some (.iload_n 2, 1) := by decide +kernel
theorem c121_63 : qcd 121 63 = some (.iconst 1, 1) := by decide +kernel
theorem c121_64 : qcd 121 64 = some (.isub, 1) := by decide +kernel
theorem c121_65 : qcd 121 65 = some (.lconst 1, 1) := by decide +kernel
theorem c121_66 : qcd 121 66 = some (.aload_n 0, 1) := by decide +kernel
theorem c121_67 : qcd 121 67 = some (.getfield 119, 3) := by decide +kernel
theorem c121_70 : qcd 121 70 = some (.iload_n 2, 1) := by decide +kernel
theorem c121_71 : qcd 121 71 = some (.iconst 1, 1) := by decide +kernel
theorem c121_72 : qcd 121 72 = some (.isub, 1) := by decide +kernel
theorem c121_73 : qcd 121 73 = some (.laload, 1) := by decide +kernel
theorem c121_74 : qcd 121 74 = some (.lsub, 1) := by decide +kernel
theorem c121_75 : qcd 121 75 = some (.lastore, 1) := by decide +kernel
theorem c121_76 : qcd 121 76 = some (.goto 48, 3) := by decide +kernel
theorem c121_79 : qcd 121 79 = some (.aload_n 0, 1) := by decide +kernel
theorem c121_80 : qcd 121 80 = some (.getfield 122, 3) := by decide +kernel
theorem c121_83 : qcd 121 83 = some (.iload_n 2, 1) := by decide +kernel
theorem c121_84 : qcd 121 84 = some (.iconst 0, 1) := by decide +kernel
theorem c121_85 : qcd 121 85 = some (.bastore, 1) := by decide +kernel
theorem c121_86 : qcd 121 86 = some (.aload_n 0, 1) := by decide +kernel
theorem c121_87 : qcd 121 87 = some (.getfield 119, 3) := by decide +kernel
theorem c121_90 : qcd 121 90 = some (.iload_n 2, 1) := by decide +kernel
theorem c121_91 : qcd 121 91 = some (.aload_n 0, 1) := by decide +kernel
theorem c121_92 : qcd 121 92 = some (.getfield 95, 3) := by decide +kernel
theorem c121_95 : qcd 121 95 = some (.iload_n 3, 1) := by decide +kernel
theorem c121_96 : qcd 121 96 = some (.iaload, 1) := by decide +kernel
theorem c121_97 : qcd 121 97 = some (.ifCond .ne 13, 3) := by decide +kernel
theorem c121_100 : qcd 121 100 = some (.aload_n 0, 1) := by decide +kernel
theorem c121_101 : qcd 121 101 = some (.getfield 98, 3) := by decide +kernel
theorem c121_104 : qcd 121 104 = some (.iload_n 3, 1) := by decide +kernel
theorem c121_105 : qcd 121 105 = some (.iaload, 1) := by decide +kernel
theorem c121_106 : qcd 121 106 = some (.i2l, 1) := by decide +kernel
theorem c121_107 : qcd 121 107 = some (.goto 13, 3) := by decide +kernel
theorem c121_110 : qcd 121 110 = some (.aload_n 0, 1) := by decide +kernel
theorem c121_111 : qcd 121 111 = some (.aload_n 0, 1) := by decide +kernel
theorem c121_112 : qcd 121 112 = some (.getfield 98, 3) := by decide +kernel
theorem c121_115 : qcd 121 115 = some (.iload_n 3, 1) := by decide +kernel
theorem c121_116 : qcd 121 116 = some (.iaload, 1) := by decide +kernel
theorem c121_117 : qcd 121 117 = some (.invokevirtual 418, 3) := by decide +kernel
theorem c121_120 : qcd 121 120 = some (.lastore, 1) := by decide +kernel
theorem c121_121 : qcd 121 121 = some (.iinc 2 1, 3) := by decide +kernel
theorem c121_124 : qcd 121 124 = some (.iinc 3 1, 3) := by decide +kernel
theorem c121_127 : qcd 121 127 = some (.goto (-118), 3) := by decide +kernel
theorem c121_130 : qcd 121 130 = some (.aload_n 0, 1) := by decide +kernel
theorem c121_131 : qcd 121 131 = some (.getfield 122, 3) := by decide +kernel
theorem c121_134 : qcd 121 134 = some (.iconst 0, 1) := by decide +kernel
theorem c121_135 : qcd 121 135 = some (.baload, 1) := by decide +kernel
theorem c121_136 : qcd 121 136 = some (.ifCond .ne 18, 3) := by decide +kernel
theorem c121_139 : qcd 121 139 = some (.aload_n 0, 1) := by decide +kernel
theorem c121_140 : qcd 121 140 = some (.getfield 119, 3) := by decide +kernel
theorem c121_143 : qcd 121 143 = some (.iconst 0, 1) := by decide +kernel
theorem c121_144 : qcd 121 144 = some (.laload, 1) := by decide +kernel
theorem c121_145 : qcd 121 145 = some (.lconst 1, 1) := by decide +kernel
theorem c121_146 : qcd 121 146 = some (.lcmp, 1) := by decide +kernel
theorem c121_147 : qcd 121 147 = some (.ifCond .ne 7, 3) := by decide +kernel
theorem c121_150 : qcd 121 150 = some (.iconst 1, 1) := by decide +kernel
theorem c121_151 : qcd 121 151 = some (.goto 4, 3) := by decide +kernel
theorem c121_154 : qcd 121 154 = some (.iconst 0, 1) := by decide +kernel
theorem c121_155 : qcd 121 155 = some (.ireturn, 1) := by decide +kernel
theorem c122_0 : qcd 122 0 = some (.aload_n 0, 1) := by decide +kernel
theorem c122_1 : qcd 122 1 = some (.iload_n 1, 1) := by decide +kernel
theorem c122_2 : qcd 122 2 = some (.putfield 402, 3) := by decide +kernel
theorem c122_5 : qcd 122 5 = some (.aload_n 0, 1) := by decide +kernel
theorem c122_6 : qcd 122 6 = some (.iload_n 3, 1) := by decide +kernel
theorem c122_7 : qcd 122 7 = some (.putfield 396, 3) := by decide +kernel
theorem c122_10 : qcd 122 10 = some (.aload_n 0, 1) := by decide +kernel
theorem c122_11 : qcd 122 11 = some (.iload_n 2, 1) := by decide +kernel
theorem c122_12 : qcd 122 12 = some (.putfield 399, 3) := by decide +kernel
theorem c122_15 : qcd 122 15 = some (.iconst 0, 1) := by decide +kernel
theorem c122_16 : qcd 122 16 = some (.istore 4, 2) := by decide +kernel
theorem c122_18 : qcd 122 18 = some (.iload 4, 2) := by decide +kernel
theorem c122_20 : qcd 122 20 = some (.aload_n 0, 1) := by decide +kernel
theorem c122_21 : qcd 122 21 = some (.getfield 393, 3) := by decide +kernel
theorem c122_24 : qcd 122 24 = some (.if_icmp .ge 41, 3) := by decide +kernel
theorem c122_27 : qcd 122 27 = some (.aload_n 0, 1) := by decide +kernel
theorem c122_28 : qcd 122 28 = some (.getfield 86, 3) := by decide +kernel
theorem c122_31 : qcd 122 31 = some (.iload 4, 2) := by decide +kernel
theorem c122_33 : qcd 122 33 = some (.iaload, 1) := by decide +kernel
theorem c122_34 : qcd 122 34 = some (.iload_n 2, 1) := by decide +kernel
theorem c122_35 : qcd 122 35 = some (.ifCond .eq 8, 3) := by decide +kernel
theorem c122_38 : qcd 122 38 = some (.bipush 116, 2) := by decide +kernel
theorem c122_40 : qcd 122 40 = some (.goto 5, 3) := by decide +kernel
theorem c122_43 : qcd 122 43 = some (.bipush 111, 2) := by decide +kernel
theorem c122_45 : qcd 122 45 = some (.if_icmp .ne 14, 3) := by decide +kernel
theorem c122_48 : qcd 122 48 = some (.aload_n 0, 1) := by decide +kernel
theorem c122_49 : qcd 122 49 = some (.iload 4, 2) := by decide +kernel
theorem c122_51 : qcd 122 51 = some (.invokevirtual 421, 3) := by decide +kernel
theorem c122_54 : qcd 122 54 = some (.ifCond .eq 5, 3) := by decide +kernel
theorem c122_57 : qcd 122 57 = some (.iconst 1, 1) := by decide +kernel
theorem c122_58 : qcd 122 58 = some (.ireturn, 1) := by decide +kernel
theorem c122_59 : qcd 122 59 = some (.iinc 4 1, 3) := by decide +kernel
theorem c122_62 : qcd 122 62 = some (.goto (-44), 3) := by decide +kernel
theorem c122_65 : qcd 122 65 = some (.iconst 0, 1) := by decide +kernel
theorem c122_66 : qcd 122 66 = some (.ireturn, 1) := by decide +kernel
theorem c123_0 : qcd 123 0 = some (.aload_n 0, 1) := by decide +kernel
theorem c123_1 : qcd 123 1 = some (.invokespecial 1, 3) := by decide +kernel
theorem c123_4 : qcd 123 4 = some (.aload_n 0, 1) := by decide +kernel
theorem c123_5 : qcd 123 5 = some (.sipush 200, 3) := by decide +kernel
theorem c123_8 : qcd 123 8 = some (.newarray .byte, 2) := by decide +kernel
theorem c123_10 : qcd 123 10 = some (.putfield 7, 3) := by decide +kernel
theorem c123_13 : qcd 123 13 = some (.aload_n 0, 1) := by decide +kernel
theorem c123_14 : qcd 123 14 = some (.ldc 13, 2) := by decide +kernel
theorem c123_16 : qcd 123 16 = some (.newarray .int, 2) := by decide +kernel
theorem c123_18 : qcd 123 18 = some (.putfield 14, 3) := by decide +kernel
theorem c123_21 : qcd 123 21 = some (.aload_n 0, 1) := by decide +kernel
theorem c123_22 : qcd 123 22 = some (.bipush 8, 2) := by decide +kernel
theorem c123_24 : qcd 123 24 = some (.newarray .int, 2) := by decide +kernel
theorem c123_26 : qcd 123 26 = some (.putfield 18, 3) := by decide +kernel
theorem c123_29 : qcd 123 29 = some (.aload_n 0, 1) := by decide +kernel
theorem c123_30 : qcd 123 30 = some (.bipush 8, 2) := by decide +kernel
theorem c123_32 : qcd 123 32 = some (.newarray .int, 2) := by decide +kernel
theorem c123_34 : qcd 123 34 = some (.putfield 21, 3) := by decide +kernel
theorem c123_37 : qcd 123 37 = some (.aload_n 0, 1) := by decide +kernel
theorem c123_38 : qcd 123 38 = some (.bipush 14, 2) := by decide +kernel
theorem c123_40 : qcd 123 40 = some (.newarray .int, 2) := by decide +kernel
theorem c123_42 : qcd 123 42 = some (.putfield 24, 3) := by decide +kernel
theorem c123_45 : qcd 123 45 = some (.aload_n 0, 1) := by decide +kernel
theorem c123_46 : qcd 123 46 = some (.bipush 14, 2) := by decide +kernel
theorem c123_48 : qcd 123 48 = some (.newarray .int, 2) := by decide +kernel
theorem c123_50 : qcd 123 50 = some (.putfield 27, 3) := by decide +kernel
theorem c123_53 : qcd 123 53 = some (.aload_n 0, 1) := by decide +kernel
theorem c123_54 : qcd 123 54 = some (.bipush 14, 2) := by decide +kernel
theorem c123_56 : qcd 123 56 = some (.newarray .int, 2) := by decide +kernel
theorem c123_58 : qcd 123 58 = some (.putfield 30, 3) := by decide +kernel
theorem c123_61 : qcd 123 61 = some (.aload_n 0, 1) := by decide +kernel
theorem c123_62 : qcd 123 62 = some (.bipush 14, 2) := by decide +kernel
theorem c123_64 : qcd 123 64 = some (.newarray .int, 2) := by decide +kernel
theorem c123_66 : qcd 123 66 = some (.putfield 33, 3) := by decide +kernel
theorem c123_69 : qcd 123 69 = some (.aload_n 0, 1) := by decide +kernel
theorem c123_70 : qcd 123 70 = some (.bipush 14, 2) := by decide +kernel
theorem c123_72 : qcd 123 72 = some (.newarray .int, 2) := by decide +kernel
theorem c123_74 : qcd 123 74 = some (.putfield 36, 3) := by decide +kernel
theorem c123_77 : qcd 123 77 = some (.aload_n 0, 1) := by decide +kernel
theorem c123_78 : qcd 123 78 = some (.bipush 14, 2) := by decide +kernel
theorem c123_80 : qcd 123 80 = some (.newarray .int, 2) := by decide +kernel
theorem c123_82 : qcd 123 82 = some (.putfield 39, 3) := by decide +kernel
theorem c123_85 : qcd 123 85 = some (.aload_n 0, 1) := by decide +kernel
theorem c123_86 : qcd 123 86 = some (.bipush 9, 2) := by decide +kernel
theorem c123_88 : qcd 123 88 = some (.newarray .int, 2) := by decide +kernel
theorem c123_90 : qcd 123 90 = some (.putfield 42, 3) := by decide +kernel
theorem c123_93 : qcd 123 93 = some (.aload_n 0, 1) := by decide +kernel
theorem c123_94 : qcd 123 94 = some (.bipush 9, 2) := by decide +kernel
theorem c123_96 : qcd 123 96 = some (.newarray .int, 2) := by decide +kernel
theorem c123_98 : qcd 123 98 = some (.putfield 45, 3) := by decide +kernel
theorem c123_101 : qcd 123 101 = some (.aload_n 0, 1) := by decide +kernel
theorem c123_102 : qcd 123 102 = some (.bipush 9, 2) := by decide +kernel
theorem c123_104 : qcd 123 104 = some (.newarray .int, 2) := by decide +kernel
theorem c123_106 : qcd 123 106 = some (.putfield 48, 3) := by decide +kernel
theorem c123_109 : qcd 123 109 = some (.aload_n 0, 1) := by decide +kernel
theorem c123_110 : qcd 123 110 = some (.bipush 9, 2) := by decide +kernel
theorem c123_112 : qcd 123 112 = some (.newarray .boolean, 2) := by decide +kernel
theorem c123_114 : qcd 123 114 = some (.putfield 51, 3) := by decide +kernel
theorem c123_117 : qcd 123 117 = some (.aload_n 0, 1) := by decide +kernel
theorem c123_118 : qcd 123 118 = some (.bipush 9, 2) := by decide +kernel
theorem c123_120 : qcd 123 120 = some (.newarray .int, 2) := by decide +kernel
theorem c123_122 : qcd 123 122 = some (.putfield 55, 3) := by decide +kernel
theorem c123_125 : qcd 123 125 = some (.aload_n 0, 1) := by decide +kernel
theorem c123_126 : qcd 123 126 = some (.bipush 8, 2) := by decide +kernel
theorem c123_128 : qcd 123 128 = some (.newarray .int, 2) := by decide +kernel
theorem c123_130 : qcd 123 130 = some (.putfield 58, 3) := by decide +kernel
theorem c123_133 : qcd 123 133 = some (.aload_n 0, 1) := by decide +kernel
theorem c123_134 : qcd 123 134 = some (.bipush 9, 2) := by decide +kernel
theorem c123_136 : qcd 123 136 = some (.newarray .int, 2) := by decide +kernel
theorem c123_138 : qcd 123 138 = some (.putfield 61, 3) := by decide +kernel
theorem c123_141 : qcd 123 141 = some (.aload_n 0, 1) := by decide +kernel
theorem c123_142 : qcd 123 142 = some (.bipush 8, 2) := by decide +kernel
theorem c123_144 : qcd 123 144 = some (.newarray .int, 2) := by decide +kernel
theorem c123_146 : qcd 123 146 = some (.putfield 64, 3) := by decide +kernel
theorem c123_149 : qcd 123 149 = some (.aload_n 0, 1) := by decide +kernel
theorem c123_150 : qcd 123 150 = some (.bipush 14, 2) := by decide +kernel
theorem c123_152 : qcd 123 152 = some (.newarray .long, 2) := by decide +kernel
theorem c123_154 : qcd 123 154 = some (.putfield 67, 3) := by decide +kernel
theorem c123_157 : qcd 123 157 = some (.aload_n 0, 1) := by decide +kernel
theorem c123_158 : qcd 123 158 = some (.bipush 14, 2) := by decide +kernel
theorem c123_160 : qcd 123 160 = some (.newarray .long, 2) := by decide +kernel
theorem c123_162 : qcd 123 162 = some (.putfield 71, 3) := by decide +kernel
theorem c123_165 : qcd 123 165 = some (.aload_n 0, 1) := by decide +kernel
theorem c123_166 : qcd 123 166 = some (.bipush 8, 2) := by decide +kernel
theorem c123_168 : qcd 123 168 = some (.newarray .int, 2) := by decide +kernel
theorem c123_170 : qcd 123 170 = some (.putfield 74, 3) := by decide +kernel
theorem c123_173 : qcd 123 173 = some (.aload_n 0, 1) := by decide +kernel
theorem c123_174 : qcd 123 174 = some (.bipush 98, 2) := by decide +kernel
theorem c123_176 : qcd 123 176 = some (.newarray .long, 2) := by decide +kernel
theorem c123_178 : qcd 123 178 = some (.putfield 77, 3) := by decide +kernel
theorem c123_181 : qcd 123 181 = some (.aload_n 0, 1) := by decide +kernel
theorem c123_182 : qcd 123 182 = some (.bipush 8, 2) := by decide +kernel
theorem c123_184 : qcd 123 184 = some (.newarray .int, 2) := by decide +kernel
theorem c123_186 : qcd 123 186 = some (.putfield 80, 3) := by decide +kernel
theorem c123_189 : qcd 123 189 = some (.aload_n 0, 1) := by decide +kernel
theorem c123_190 : qcd 123 190 = some (.bipush 8, 2) := by decide +kernel
theorem c123_192 : qcd 123 192 = some (.newarray .long, 2) := by decide +kernel
theorem c123_194 : qcd 123 194 = some (.putfield 83, 3) := by decide +kernel
theorem c123_197 : qcd 123 197 = some (.aload_n 0, 1) := by decide +kernel
theorem c123_198 : qcd 123 198 = some (.bipush 12, 2) := by decide +kernel
theorem c123_200 : qcd 123 200 = some (.newarray .int, 2) := by decide +kernel
theorem c123_202 : qcd 123 202 = some (.putfield 86, 3) := by decide +kernel
theorem c123_205 : qcd 123 205 = some (.aload_n 0, 1) := by decide +kernel
theorem c123_206 : qcd 123 206 = some (.bipush 12, 2) := by decide +kernel
theorem c123_208 : qcd 123 208 = some (.newarray .int, 2) := by decide +kernel
theorem c123_210 : qcd 123 210 = some (.putfield 89, 3) := by decide +kernel
theorem c123_213 : qcd 123 213 = some (.aload_n 0, 1) := by decide +kernel
theorem c123_214 : qcd 123 214 = some (.bipush 12, 2) := by decide +kernel
theorem c123_216 : qcd 123 216 = some (.newarray .int, 2) := by decide +kernel
theorem c123_218 : qcd 123 218 = some (.putfield 92, 3) := by decide +kernel
theorem c123_221 : qcd 123 221 = some (.aload_n 0, 1) := by decide +kernel
theorem c123_222 : qcd 123 222 = some (.sipush 160, 3) := by decide +kernel
theorem c123_225 : qcd 123 225 = some (.newarray .int, 2) := by decide +kernel
theorem c123_227 : qcd 123 227 = some (.putfield 95, 3) := by decide +kernel
theorem c123_230 : qcd 123 230 = some (.aload_n 0, 1) := by decide +kernel
theorem c123_231 : qcd 123 231 = some (.sipush 160, 3) := by decide +kernel
theorem c123_234 : qcd 123 234 = some (.newarray .int, 2) := by decide +kernel
theorem c123_236 : qcd 123 236 = some (.putfield 98, 3) := by decide +kernel
theorem c123_239 : qcd 123 239 = some (.aload_n 0, 1) := by decide +kernel
theorem c123_240 : qcd 123 240 = some (.bipush 12, 2) := by decide +kernel
theorem c123_242 : qcd 123 242 = some (.newarray .int, 2) := by decide +kernel
theorem c123_244 : qcd 123 244 = some (.putfield 101, 3) := by decide +kernel
theorem c123_247 : qcd 123 247 = some (.aload_n 0, 1) := by decide +kernel
theorem c123_248 : qcd 123 248 = some (.bipush 12, 2) := by decide +kernel
theorem c123_250 : qcd 123 250 = some (.newarray .int, 2) := by decide +kernel
theorem c123_252 : qcd 123 252 = some (.putfield 104, 3) := by decide +kernel
theorem c123_255 : qcd 123 255 = some (.aload_n 0, 1) := by decide +kernel
theorem c123_256 : qcd 123 256 = some (.bipush 12, 2) := by decide +kernel
theorem c123_258 : qcd 123 258 = some (.newarray .int, 2) := by decide +kernel
theorem c123_260 : qcd 123 260 = some (.putfield 107, 3) := by decide +kernel
theorem c123_263 : qcd 123 263 = some (.aload_n 0, 1) := by decide +kernel
theorem c123_264 : qcd 123 264 = some (.sipush 160, 3) := by decide +kernel
theorem c123_267 : qcd 123 267 = some (.newarray .int, 2) := by decide +kernel
theorem c123_269 : qcd 123 269 = some (.putfield 110, 3) := by decide +kernel
theorem c123_272 : qcd 123 272 = some (.aload_n 0, 1) := by decide +kernel
theorem c123_273 : qcd 123 273 = some (.sipush 160, 3) := by decide +kernel
theorem c123_276 : qcd 123 276 = some (.newarray .int, 2) := by decide +kernel
theorem c123_278 : qcd 123 278 = some (.putfield 113, 3) := by decide +kernel
theorem c123_281 : qcd 123 281 = some (.aload_n 0, 1) := by decide +kernel
theorem c123_282 : qcd 123 282 = some (.sipush 200, 3) := by decide +kernel
theorem c123_285 : qcd 123 285 = some (.newarray .int, 2) := by decide +kernel
theorem c123_287 : qcd 123 287 = some (.putfield 116, 3) := by decide +kernel
theorem c123_290 : qcd 123 290 = some (.aload_n 0, 1) := by decide +kernel
theorem c123_291 : qcd 123 291 = some (.sipush 200, 3) := by decide +kernel
theorem c123_294 : qcd 123 294 = some (.newarray .long, 2) := by decide +kernel
theorem c123_296 : qcd 123 296 = some (.putfield 119, 3) := by decide +kernel
theorem c123_299 : qcd 123 299 = some (.aload_n 0, 1) := by decide +kernel
theorem c123_300 : qcd 123 300 = some (.sipush 200, 3) := by decide +kernel
theorem c123_303 : qcd 123 303 = some (.newarray .boolean, 2) := by decide +kernel
theorem c123_305 : qcd 123 305 = some (.putfield 122, 3) := by decide +kernel
theorem c123_308 : qcd 123 308 = some (.aload_n 0, 1) := by decide +kernel
theorem c123_309 : qcd 123 309 = some (.bipush 64, 2) := by decide +kernel
theorem c123_311 : qcd 123 311 = some (.newarray .int, 2) := by decide +kernel
theorem c123_313 : qcd 123 313 = some (.putfield 125, 3) := by decide +kernel
theorem c123_316 : qcd 123 316 = some (.aload_n 0, 1) := by decide +kernel
theorem c123_317 : qcd 123 317 = some (.bipush 64, 2) := by decide +kernel
theorem c123_319 : qcd 123 319 = some (.newarray .int, 2) := by decide +kernel
theorem c123_321 : qcd 123 321 = some (.putfield 128, 3) := by decide +kernel
theorem c123_324 : qcd 123 324 = some (.aload_n 0, 1) := by decide +kernel
theorem c123_325 : qcd 123 325 = some (.sipush 500, 3) := by decide +kernel
theorem c123_328 : qcd 123 328 = some (.newarray .int, 2) := by decide +kernel
theorem c123_330 : qcd 123 330 = some (.putfield 131, 3) := by decide +kernel
theorem c123_333 : qcd 123 333 = some (.aload_n 0, 1) := by decide +kernel
theorem c123_334 : qcd 123 334 = some (.sipush 7000, 3) := by decide +kernel
theorem c123_337 : qcd 123 337 = some (.newarray .int, 2) := by decide +kernel
theorem c123_339 : qcd 123 339 = some (.putfield 134, 3) := by decide +kernel
theorem c123_342 : qcd 123 342 = some (.aload_n 0, 1) := by decide +kernel
theorem c123_343 : qcd 123 343 = some (.sipush 7000, 3) := by decide +kernel
theorem c123_346 : qcd 123 346 = some (.newarray .boolean, 2) := by decide +kernel
theorem c123_348 : qcd 123 348 = some (.putfield 137, 3) := by decide +kernel
theorem c123_351 : qcd 123 351 = some (.aload_n 0, 1) := by decide +kernel
theorem c123_352 : qcd 123 352 = some (.sipush 400, 3) := by decide +kernel
theorem c123_355 : qcd 123 355 = some (.newarray .int, 2) := by decide +kernel
theorem c123_357 : qcd 123 357 = some (.putfield 140, 3) := by decide +kernel
theorem c123_360 : qcd 123 360 = some (.aload_n 0, 1) := by decide +kernel
theorem c123_361 : qcd 123 361 = some (.sipush 400, 3) := by decide +kernel
theorem c123_364 : qcd 123 364 = some (.newarray .int, 2) := by decide +kernel
theorem c123_366 : qcd 123 366 = some (.putfield 143, 3) := by decide +kernel
theorem c123_369 : qcd 123 369 = some (.aload_n 0, 1) := by decide +kernel
theorem c123_370 : qcd 123 370 = some (.sipush 400, 3) := by decide +kernel
theorem c123_373 : qcd 123 373 = some (.newarray .int, 2) := by decide +kernel
theorem c123_375 : qcd 123 375 = some (.putfield 146, 3) := by decide +kernel
theorem c123_378 : qcd 123 378 = some (.aload_n 0, 1) := by decide +kernel
theorem c123_379 : qcd 123 379 = some (.iconst 4, 1) := by decide +kernel
theorem c123_380 : qcd 123 380 = some (.newarray .boolean, 2) := by decide +kernel
theorem c123_382 : qcd 123 382 = some (.putfield 149, 3) := by decide +kernel
theorem c123_385 : qcd 123 385 = some (.aload_n 0, 1) := by decide +kernel
theorem c123_386 : qcd 123 386 = some (.iconst 4, 1) := by decide +kernel
theorem c123_387 : qcd 123 387 = some (.newarray .int, 2) := by decide +kernel
theorem c123_389 : qcd 123 389 = some (.putfield 152, 3) := by decide +kernel
theorem c123_392 : qcd 123 392 = some (.aload_n 0, 1) := by decide +kernel
theorem c123_393 : qcd 123 393 = some (.iconst 4, 1) := by decide +kernel
theorem c123_394 : qcd 123 394 = some (.newarray .int, 2) := by decide +kernel
theorem c123_396 : qcd 123 396 = some (.putfield 155, 3) := by decide +kernel
theorem c123_399 : qcd 123 399 = some (.aload_n 0, 1) := by decide +kernel
theorem c123_400 : qcd 123 400 = some (.iconst 4, 1) := by decide +kernel
theorem c123_401 : qcd 123 401 = some (.newarray .int, 2) := by decide +kernel
theorem c123_403 : qcd 123 403 = some (.putfield 158, 3) := by decide +kernel
theorem c123_406 : qcd 123 406 = some (.aload_n 0, 1) := by decide +kernel
theorem c123_407 : qcd 123 407 = some (.iconst 4, 1) := by decide +kernel
theorem c123_408 : qcd 123 408 = some (.newarray .int, 2) := by decide +kernel
theorem c123_410 : qcd 123 410 = some (.putfield 161, 3) := by decide +kernel
theorem c123_413 : qcd 123 413 = some (.aload_n 0, 1) := by decide +kernel
theorem c123_414 : qcd 123 414 = some (.bipush 40, 2) := by decide +kernel
theorem c123_416 : qcd 123 416 = some (.newarray .int, 2) := by decide +kernel
theorem c123_418 : qcd 123 418 = some (.putfield 164, 3) := by decide +kernel
theorem c123_421 : qcd 123 421 = some (.aload_n 0, 1) := by decide +kernel
theorem c123_422 : qcd 123 422 = some (.bipush 40, 2) := by decide +kernel
theorem c123_424 : qcd 123 424 = some (.newarray .int, 2) := by decide +kernel
theorem c123_426 : qcd 123 426 = some (.putfield 167, 3) := by decide +kernel
theorem c123_429 : qcd 123 429 = some (.aload_n 0, 1) := by decide +kernel
theorem c123_430 : qcd 123 430 = some (.bipush 100, 2) := by decide +kernel
theorem c123_432 : qcd 123 432 = some (.newarray .int, 2) := by decide +kernel
theorem c123_434 : qcd 123 434 = some (.putfield 170, 3) := by decide +kernel
theorem c123_437 : qcd 123 437 = some (.aload_n 0, 1) := by decide +kernel
theorem c123_438 : qcd 123 438 = some (.bipush 100, 2) := by decide +kernel
theorem c123_440 : qcd 123 440 = some (.newarray .int, 2) := by decide +kernel
theorem c123_442 : qcd 123 442 = some (.putfield 173, 3) := by decide +kernel
theorem c123_445 : qcd 123 445 = some (.aload_n 0, 1) := by decide +kernel
theorem c123_446 : qcd 123 446 = some (.bipush 25, 2) := by decide +kernel
theorem c123_448 : qcd 123 448 = some (.newarray .int, 2) := by decide +kernel
theorem c123_450 : qcd 123 450 = some (.putfield 176, 3) := by decide +kernel
theorem c123_453 : qcd 123 453 = some (.aload_n 0, 1) := by decide +kernel
theorem c123_454 : qcd 123 454 = some (.sipush 512, 3) := by decide +kernel
theorem c123_457 : qcd 123 457 = some (.newarray .long, 2) := by decide +kernel
theorem c123_459 : qcd 123 459 = some (.putfield 179, 3) := by decide +kernel
theorem c123_462 : qcd 123 462 = some (.aload_n 0, 1) := by decide +kernel
theorem c123_463 : qcd 123 463 = some (.bipush 8, 2) := by decide +kernel
theorem c123_465 : qcd 123 465 = some (.newarray .int, 2) := by decide +kernel
theorem c123_467 : qcd 123 467 = some (.putfield 182, 3) := by decide +kernel
theorem c123_470 : qcd 123 470 = some (.aload_n 0, 1) := by decide +kernel
theorem c123_471 : qcd 123 471 = some (.getfield 14, 3) := by decide +kernel
theorem c123_474 : qcd 123 474 = some (.ldc 185, 2) := by decide +kernel
theorem c123_476 : qcd 123 476 = some (.bipush 100, 2) := by decide +kernel
theorem c123_478 : qcd 123 478 = some (.iastore, 1) := by decide +kernel
theorem c123_479 : qcd 123 479 = some (.iconst 0, 1) := by decide +kernel
theorem c123_480 : qcd 123 480 = some (.istore_n 1, 1) := by decide +kernel
theorem c123_481 : qcd 123 481 = some (.iload_n 1, 1) := by decide +kernel
theorem c123_482 : qcd 123 482 = some (.bipush 14, 2) := by decide +kernel
theorem c123_484 : qcd 123 484 = some (.if_icmp .ge 16, 3) := by decide +kernel
theorem c123_487 : qcd 123 487 = some (.aload_n 0, 1) := by decide +kernel
theorem c123_488 : qcd 123 488 = some (.getfield 39, 3) := by decide +kernel
theorem c123_491 : qcd 123 491 = some (.iload_n 1, 1) := by decide +kernel
theorem c123_492 : qcd 123 492 = some (.iconst 1, 1) := by decide +kernel
theorem c123_493 : qcd 123 493 = some (.iastore, 1) := by decide +kernel
theorem c123_494 : qcd 123 494 = some (.iinc 1 1, 3) := by decide +kernel
theorem c123_497 : qcd 123 497 = some (.goto (-16), 3) := by decide +kernel
theorem c123_500 : qcd 123 500 = some (.iconst 0, 1) := by decide +kernel
theorem c123_501 : qcd 123 501 = some (.istore_n 1, 1) := by decide +kernel
theorem c123_502 : qcd 123 502 = some (.iload_n 1, 1) := by decide +kernel
theorem c123_503 : qcd 123 503 = some (.bipush 9, 2) := by decide +kernel
theorem c123_505 : qcd 123 505 = some (.if_icmp .ge 17, 3) := by decide +kernel
theorem c123_508 : qcd 123 508 = some (.aload_n 0, 1) := by decide +kernel
theorem c123_509 : qcd 123 509 = some (.getfield 55, 3) := by decide +kernel
theorem c123_512 : qcd 123 512 = some (.iload_n 1, 1) := by decide +kernel
theorem c123_513 : qcd 123 513 = some (.bipush 10, 2) := by decide +kernel
theorem c123_515 : qcd 123 515 = some (.iastore, 1) := by decide +kernel
theorem c123_516 : qcd 123 516 = some (.iinc 1 1, 3) := by decide +kernel
theorem c123_519 : qcd 123 519 = some (.goto (-17), 3) := by decide +kernel
theorem c123_522 : qcd 123 522 = some (.iconst 0, 1) := by decide +kernel
theorem c123_523 : qcd 123 523 = some (.istore_n 1, 1) := by decide +kernel
theorem c123_524 : qcd 123 524 = some (.iload_n 1, 1) := by decide +kernel
theorem c123_525 : qcd 123 525 = some (.iconst 4, 1) := by decide +kernel
theorem c123_526 : qcd 123 526 = some (.if_icmp .ge 16, 3) := by decide +kernel
theorem c123_529 : qcd 123 529 = some (.aload_n 0, 1) := by decide +kernel
theorem c123_530 : qcd 123 530 = some (.getfield 155, 3) := by decide +kernel
theorem c123_533 : qcd 123 533 = some (.iload_n 1, 1) := by decide +kernel
theorem c123_534 : qcd 123 534 = some (.iconst (-1), 1) := by decide +kernel
theorem c123_535 : qcd 123 535 = some (.iastore, 1) := by decide +kernel
theorem c123_536 : qcd 123 536 = some (.iinc 1 1, 3) := by decide +kernel
theorem c123_539 : qcd 123 539 = some (.goto (-15), 3) := by decide +kernel
theorem c123_542 : qcd 123 542 = some (.return_, 1) := by decide +kernel
theorem c124_0 : qcd 124 0 = some (.aload_n 0, 1) := by decide +kernel
theorem c124_1 : qcd 124 1 = some (.getfield 296, 3) := by decide +kernel
theorem c124_4 : qcd 124 4 = some (.ifCond .ne 7, 3) := by decide +kernel
theorem c124_7 : qcd 124 7 = some (.iconst 1, 1) := by decide +kernel
theorem c124_8 : qcd 124 8 = some (.goto 4, 3) := by decide +kernel
theorem c124_11 : qcd 124 11 = some (.iconst 0, 1) := by decide +kernel
theorem c124_12 : qcd 124 12 = some (.ireturn, 1) := by decide +kernel
theorem c125_0 : qcd 125 0 = some (.aload_n 0, 1) := by decide +kernel
theorem c125_1 : qcd 125 1 = some (.iload_n 1, 1) := by decide +kernel
theorem c125_2 : qcd 125 2 = some (.iload_n 2, 1) := by decide +kernel
theorem c125_3 : qcd 125 3 = some (.invokevirtual 485, 3) := by decide +kernel
theorem c125_6 : qcd 125 6 = some (.iconst 0, 1) := by decide +kernel
theorem c125_7 : qcd 125 7 = some (.istore 4, 2) := by decide +kernel
theorem c125_9 : qcd 125 9 = some (.iload 4, 2) := by decide +kernel
theorem c125_11 : qcd 125 11 = some (.iload_n 3, 1) := by decide +kernel
theorem c125_12 : qcd 125 12 = some (.if_icmp .ge 25, 3) := by decide +kernel
theorem c125_15 : qcd 125 15 = some (.aload_n 0, 1) := by decide +kernel
theorem c125_16 : qcd 125 16 = some (.ldc_w 471, 3) := by decide +kernel
theorem c125_19 : qcd 125 19 = some (.invokevirtual 458, 3) := by decide +kernel
theorem c125_22 : qcd 125 22 = some (.aload_n 0, 1) := by decide +kernel
theorem c125_23 : qcd 125 23 = some (.getfield 424, 3) := by decide +kernel
theorem c125_26 : qcd 125 26 = some (.ifCond .le 5, 3) := by decide +kernel
theorem c125_29 : qcd 125 29 = some (.iconst 0, 1) := by decide +kernel
theorem c125_30 : qcd 125 30 = some (.ireturn, 1) := by decide +kernel
theorem c125_31 : qcd 125 31 = some (.iinc 4 1, 3) := by decide +kernel
theorem c125_34 : qcd 125 34 = some (.goto (-25), 3) := by decide +kernel
theorem c125_37 : qcd 125 37 = some (.iconst 1, 1) := by decide +kernel
theorem c125_38 : qcd 125 38 = some (.ireturn, 1) := by decide +kernel
theorem c126_0 : qcd 126 0 = some (.iload_n 0, 1) := by decide +kernel
theorem c126_1 : qcd 126 1 = some (.i2l, 1) := by decide +kernel
theorem c126_2 : qcd 126 2 = some (.lconst 0, 1) := by decide +kernel
theorem c126_3 : qcd 126 3 = some (.ldc2_w 200, 3) := by decide +kernel
theorem c126_6 : qcd 126 6 = some (.invokestatic 190, 3) := by decide +kernel
theorem c126_9 : qcd 126 9 = some (.ireturn, 1) := by decide +kernel
theorem c127_0 : qcd 127 0 = some (.iload_n 0, 1) := by decide +kernel
theorem c127_1 : qcd 127 1 = some (.i2l, 1) := by decide +kernel
theorem c127_2 : qcd 127 2 = some (.lconst 1, 1) := by decide +kernel
theorem c127_3 : qcd 127 3 = some (.ldc2_w 488, 3) := by decide +kernel
theorem c127_6 : qcd 127 6 = some (.invokestatic 190, 3) := by decide +kernel
theorem c127_9 : qcd 127 9 = some (.ireturn, 1) := by decide +kernel
theorem c128_0 : qcd 128 0 = some (.iload_n 0, 1) := by decide +kernel
theorem c128_1 : qcd 128 1 = some (.bipush 43, 2) := by decide +kernel
theorem c128_3 : qcd 128 3 = some (.if_icmp .eq 9, 3) := by decide +kernel
theorem c128_6 : qcd 128 6 = some (.iload_n 0, 1) := by decide +kernel
theorem c128_7 : qcd 128 7 = some (.bipush 45, 2) := by decide +kernel
theorem c128_9 : qcd 128 9 = some (.if_icmp .ne 7, 3) := by decide +kernel
theorem c128_12 : qcd 128 12 = some (.iconst 1, 1) := by decide +kernel
theorem c128_13 : qcd 128 13 = some (.goto 4, 3) := by decide +kernel
theorem c128_16 : qcd 128 16 = some (.iconst 0, 1) := by decide +kernel
theorem c128_17 : qcd 128 17 = some (.ireturn, 1) := by decide +kernel
theorem c129_0 : qcd 129 0 = some (.iload_n 1, 1) := by decide +kernel
theorem c129_1 : qcd 129 1 = some (.i2l, 1) := by decide +kernel
theorem c129_2 : qcd 129 2 = some (.lconst 0, 1) := by decide +kernel
theorem c129_3 : qcd 129 3 = some (.aload_n 0, 1) := by decide +kernel
theorem c129_4 : qcd 129 4 = some (.getfield 505, 3) := by decide +kernel
theorem c129_7 : qcd 129 7 = some (.iconst 1, 1) := by decide +kernel
theorem c129_8 : qcd 129 8 = some (.isub, 1) := by decide +kernel
theorem c129_9 : qcd 129 9 = some (.i2l, 1) := by decide +kernel
theorem c129_10 : qcd 129 10 = some (.invokestatic 190, 3) := by decide +kernel
theorem c129_13 : qcd 129 13 = some (.ireturn, 1) := by decide +kernel
theorem c130_0 : qcd 130 0 = some (.iload_n 1, 1) := by decide +kernel
theorem c130_1 : qcd 130 1 = some (.i2l, 1) := by decide +kernel
theorem c130_2 : qcd 130 2 = some (.lconst 0, 1) := by decide +kernel
theorem c130_3 : qcd 130 3 = some (.iconst 1, 1) := by decide +kernel
theorem c130_4 : qcd 130 4 = some (.aload_n 0, 1) := by decide +kernel
theorem c130_5 : qcd 130 5 = some (.getfield 186, 3) := by decide +kernel
theorem c130_8 : qcd 130 8 = some (.ishl, 1) := by decide +kernel
theorem c130_9 : qcd 130 9 = some (.iconst 1, 1) := by decide +kernel
theorem c130_10 : qcd 130 10 = some (.isub, 1) := by decide +kernel
theorem c130_11 : qcd 130 11 = some (.i2l, 1) := by decide +kernel
theorem c130_12 : qcd 130 12 = some (.invokestatic 190, 3) := by decide +kernel
theorem c130_15 : qcd 130 15 = some (.ireturn, 1) := by decide +kernel
theorem c131_0 : qcd 131 0 = some (.iload_n 0, 1) := by decide +kernel
theorem c131_1 : qcd 131 1 = some (.bipush 60, 2) := by decide +kernel
theorem c131_3 : qcd 131 3 = some (.if_icmp .eq 15, 3) := by decide +kernel
theorem c131_6 : qcd 131 6 = some (.iload_n 0, 1) := by decide +kernel
theorem c131_7 : qcd 131 7 = some (.bipush 62, 2) := by decide +kernel
theorem c131_9 : qcd 131 9 = some (.if_icmp .eq 9, 3) := by decide +kernel
theorem c131_12 : qcd 131 12 = some (.iload_n 0, 1) := by decide +kernel
theorem c131_13 : qcd 131 13 = some (.bipush 61, 2) := by decide +kernel
theorem c131_15 : qcd 131 15 = some (.if_icmp .ne 7, 3) := by decide +kernel
theorem c131_18 : qcd 131 18 = some (.iconst 1, 1) := by decide +kernel
theorem c131_19 : qcd 131 19 = some (.goto 4, 3) := by decide +kernel
theorem c131_22 : qcd 131 22 = some (.iconst 0, 1) := by decide +kernel
theorem c131_23 : qcd 131 23 = some (.ireturn, 1) := by decide +kernel
theorem c132_0 : qcd 132 0 = some (.iload_n 1, 1) := by decide +kernel
theorem c132_1 : qcd 132 1 = some (.i2l, 1) := by decide +kernel
theorem c132_2 : qcd 132 2 = some (.lconst 0, 1) := by decide +kernel
theorem c132_3 : qcd 132 3 = some (.aload_n 0, 1) := by decide +kernel
theorem c132_4 : qcd 132 4 = some (.getfield 186, 3) := by decide +kernel
theorem c132_7 : qcd 132 7 = some (.iconst 1, 1) := by decide +kernel
theorem c132_8 : qcd 132 8 = some (.isub, 1) := by decide +kernel
theorem c132_9 : qcd 132 9 = some (.i2l, 1) := by decide +kernel
theorem c132_10 : qcd 132 10 = some (.invokestatic 190, 3) := by decide +kernel
theorem c132_13 : qcd 132 13 = some (.ireturn, 1) := by decide +kernel
theorem c133_0 : qcd 133 0 = some (.iload_n 0, 1) := by decide +kernel
theorem c133_1 : qcd 133 1 = some (.bipush 42, 2) := by decide +kernel
theorem c133_3 : qcd 133 3 = some (.if_icmp .eq 15, 3) := by decide +kernel
theorem c133_6 : qcd 133 6 = some (.iload_n 0, 1) := by decide +kernel
theorem c133_7 : qcd 133 7 = some (.bipush 47, 2) := by decide +kernel
theorem c133_9 : qcd 133 9 = some (.if_icmp .eq 9, 3) := by decide +kernel
theorem c133_12 : qcd 133 12 = some (.iload_n 0, 1) := by decide +kernel
theorem c133_13 : qcd 133 13 = some (.bipush 37, 2) := by decide +kernel
theorem c133_15 : qcd 133 15 = some (.if_icmp .ne 7, 3) := by decide +kernel
theorem c133_18 : qcd 133 18 = some (.iconst 1, 1) := by decide +kernel
theorem c133_19 : qcd 133 19 = some (.goto 4, 3) := by decide +kernel
theorem c133_22 : qcd 133 22 = some (.iconst 0, 1) := by decide +kernel
theorem c133_23 : qcd 133 23 = some (.ireturn, 1) := by decide +kernel
theorem c134_0 : qcd 134 0 = some (.aload_n 0, 1) := by decide +kernel
theorem c134_1 : qcd 134 1 = some (.ldc_w 442, 3) := by decide +kernel
theorem c134_4 : qcd 134 4 = some (.ldc_w 443, 3) := by decide +kernel
theorem c134_7 : qcd 134 7 = some (.invokevirtual 444, 3) := by decide +kernel
theorem c134_10 : qcd 134 10 = some (.aload_n 0, 1) := by decide +kernel
theorem c134_11 : qcd 134 11 = some (.getfield 14, 3) := by decide +kernel
theorem c134_14 : qcd 134 14 = some (.ldc_w 443, 3) := by decide +kernel
theorem c134_17 : qcd 134 17 = some (.iload_n 1, 1) := by decide +kernel
theorem c134_18 : qcd 134 18 = some (.iadd, 1) := by decide +kernel
theorem c134_19 : qcd 134 19 = some (.iconst 1, 1) := by decide +kernel
theorem c134_20 : qcd 134 20 = some (.iastore, 1) := by decide +kernel
theorem c134_21 : qcd 134 21 = some (.aload_n 0, 1) := by decide +kernel
theorem c134_22 : qcd 134 22 = some (.ldc_w 443, 3) := by decide +kernel
theorem c134_25 : qcd 134 25 = some (.invokevirtual 429, 3) := by decide +kernel
theorem c134_28 : qcd 134 28 = some (.iconst 0, 1) := by decide +kernel
theorem c134_29 : qcd 134 29 = some (.istore_n 3, 1) := by decide +kernel
theorem c134_30 : qcd 134 30 = some (.iload_n 3, 1) := by decide +kernel
theorem c134_31 : qcd 134 31 = some (.aload_n 0, 1) := by decide +kernel
theorem c134_32 : qcd 134 32 = some (.getfield 194, 3) := by decide +kernel
theorem c134_35 : qcd 134 35 = some (.if_icmp .ge 38, 3) := by decide +kernel
theorem c134_38 : qcd 134 38 = some (.aload_n 0, 1) := by decide +kernel
theorem c134_39 : qcd 134 39 = some (.getfield 67, 3) := by decide +kernel
theorem c134_42 : qcd 134 42 = some (.iload_n 3, 1) := by decide +kernel
theorem c134_43 : qcd 134 43 = some (.laload, 1) := by decide +kernel
theorem c134_44 : qcd 134 44 = some (.invokestatic 279, 3) := by decide +kernel
theorem c134_47 : qcd 134 47 = some (.aload_n 0, 1) := by decide +kernel
theorem c134_48 : qcd 134 48 = some (.getfield 33, 3) := by decide +kernel
theorem c134_51 : qcd 134 51 = some (.iload_n 3, 1) := by decide +kernel
theorem c134_52 : qcd 134 52 = some (.iaload, 1) := by decide +kernel
theorem c134_53 : qcd 134 53 = some (.i2l, 1) := by decide +kernel
theorem c134_54 : qcd 134 54 = some (.aload_n 0, 1) := by decide +kernel
theorem c134_55 : qcd 134 55 = some (.getfield 71, 3) := by decide +kernel
theorem c134_58 : qcd 134 58 = some (.iload_n 3, 1) := by decide +kernel
theorem c134_59 : qcd 134 59 = some (.laload, 1) := by decide +kernel
theorem c134_60 : qcd 134 60 = some (.lmul, 1) := by decide +kernel
theorem c134_61 : qcd 134 61 = some (.lcmp, 1) := by decide +kernel
theorem c134_62 : qcd 134 62 = some (.ifCond .le 5, 3) := by decide +kernel
theorem c134_65 : qcd 134 65 = some (.iconst 1, 1) := by decide +kernel
theorem c134_66 : qcd 134 66 = some (.ireturn, 1) := by decide +kernel
theorem c134_67 : qcd 134 67 = some (.iinc 3 1, 3) := by decide +kernel
theorem c134_70 : qcd 134 70 = some (.goto (-40), 3) := by decide +kernel
theorem c134_73 : qcd 134 73 = some (.aload_n 0, 1) := by decide +kernel
theorem c134_74 : qcd 134 74 = some (.ldc_w 443, 3) := by decide +kernel
theorem c134_77 : qcd 134 77 = some (.invokevirtual 447, 3) := by decide +kernel
theorem c134_80 : qcd 134 80 = some (.iload_n 2, 1) := by decide +kernel
theorem c134_81 : qcd 134 81 = some (.iconst (-1), 1) := by decide +kernel
theorem c134_82 : qcd 134 82 = some (.ixor, 1) := by decide +kernel
theorem c134_83 : qcd 134 83 = some (.iand, 1) := by decide +kernel
theorem c134_84 : qcd 134 84 = some (.ifCond .eq 7, 3) := by decide +kernel
theorem c134_87 : qcd 134 87 = some (.iconst 1, 1) := by decide +kernel
theorem c134_88 : qcd 134 88 = some (.goto 4, 3) := by decide +kernel
theorem c134_91 : qcd 134 91 = some (.iconst 0, 1) := by decide +kernel
theorem c134_92 : qcd 134 92 = some (.ireturn, 1) := by decide +kernel
theorem c135_0 : qcd 135 0 = some (.iload_n 1, 1) := by decide +kernel
theorem c135_1 : qcd 135 1 = some (.bipush 109, 2) := by decide +kernel
theorem c135_3 : qcd 135 3 = some (.if_icmp .eq 33, 3) := by decide +kernel
theorem c135_6 : qcd 135 6 = some (.iload_n 1, 1) := by decide +kernel
theorem c135_7 : qcd 135 7 = some (.bipush 105, 2) := by decide +kernel
theorem c135_9 : qcd 135 9 = some (.if_icmp .eq 27, 3) := by decide +kernel
theorem c135_12 : qcd 135 12 = some (.iload_n 1, 1) := by decide +kernel
theorem c135_13 : qcd 135 13 = some (.bipush 107, 2) := by decide +kernel
theorem c135_15 : qcd 135 15 = some (.if_icmp .eq 21, 3) := by decide +kernel
theorem c135_18 : qcd 135 18 = some (.iload_n 1, 1) := by decide +kernel
theorem c135_19 : qcd 135 19 = some (.bipush 114, 2) := by decide +kernel
theorem c135_21 : qcd 135 21 = some (.if_icmp .eq 15, 3) := by decide +kernel
theorem c135_24 : qcd 135 24 = some (.iload_n 1, 1) := by decide +kernel
theorem c135_25 : qcd 135 25 = some (.bipush 100, 2) := by decide +kernel
theorem c135_27 : qcd 135 27 = some (.if_icmp .eq 9, 3) := by decide +kernel
theorem c135_30 : qcd 135 30 = some (.iload_n 1, 1) := by decide +kernel
theorem c135_31 : qcd 135 31 = some (.bipush 110, 2) := by decide +kernel
theorem c135_33 : qcd 135 33 = some (.if_icmp .ne 5, 3) := by decide +kernel
theorem c135_36 : qcd 135 36 = some (.iconst 1, 1) := by decide +kernel
theorem c135_37 : qcd 135 37 = some (.ireturn, 1) := by decide +kernel
theorem c135_38 : qcd 135 38 = some (.aload_n 0, 1) := by decide +kernel
theorem c135_39 : qcd 135 39 = some (.getfield 101, 3) := by decide +kernel
theorem c135_42 : qcd 135 42 = some (.aload_n 0, 1) := by decide +kernel
theorem c135_43 : qcd 135 43 = some (.getfield 329, 3) := by decide +kernel
theorem c135_46 : qcd 135 46 = some (.iaload, 1) := by decide +kernel
theorem c135_47 : qcd 135 47 = some (.bipush 116, 2) := by decide +kernel
theorem c135_49 : qcd 135 49 = some (.if_icmp .ne 29, 3) := by decide +kernel
theorem c135_52 : qcd 135 52 = some (.iload_n 1, 1) := by decide +kernel
theorem c135_53 : qcd 135 53 = some (.bipush 102, 2) := by decide +kernel
theorem c135_55 : qcd 135 55 = some (.if_icmp .eq 15, 3) := by decide +kernel
theorem c135_58 : qcd 135 58 = some (.iload_n 1, 1) := by decide +kernel
theorem c135_59 : qcd 135 59 = some (.bipush 108, 2) := by decide +kernel
theorem c135_61 : qcd 135 61 = some (.if_icmp .eq 9, 3) := by decide +kernel
theorem c135_64 : qcd 135 64 = some (.iload_n 1, 1) := by decide +kernel
theorem c135_65 : qcd 135 65 = some (.bipush 119, 2) := by decide +kernel
theorem c135_67 : qcd 135 67 = some (.if_icmp .ne 7, 3) := by decide +kernel
theorem c135_70 : qcd 135 70 = some (.iconst 1, 1) := by decide +kernel
theorem c135_71 : qcd 135 71 = some (.goto 24, 3) := by decide +kernel
theorem c135_74 : qcd 135 74 = some (.iconst 0, 1) := by decide +kernel
theorem c135_75 : qcd 135 75 = some (.goto 20, 3) := by decide +kernel
theorem c135_78 : qcd 135 78 = some (.iload_n 1, 1) := by decide +kernel
theorem c135_79 : qcd 135 79 = some (.bipush 103, 2) := by decide +kernel
theorem c135_81 : qcd 135 81 = some (.if_icmp .eq 9, 3) := by decide +kernel
theorem c135_84 : qcd 135 84 = some (.iload_n 1, 1) := by decide +kernel
theorem c135_85 : qcd 135 85 = some (.bipush 120, 2) := by decide +kernel
theorem c135_87 : qcd 135 87 = some (.if_icmp .ne 7, 3) := by decide +kernel
theorem c135_90 : qcd 135 90 = some (.iconst 1, 1) := by decide +kernel
theorem c135_91 : qcd 135 91 = some (.goto 4, 3) := by decide +kernel
theorem c135_94 : qcd 135 94 = some (.iconst 0, 1) := by decide +kernel
theorem c135_95 : qcd 135 95 = some (.ireturn, 1) := by decide +kernel
theorem c136_0 : qcd 136 0 = some (.iload_n 1, 1) := by decide +kernel
theorem c136_1 : qcd 136 1 = some (.i2l, 1) := by decide +kernel
theorem c136_2 : qcd 136 2 = some (.lconst 0, 1) := by decide +kernel
theorem c136_3 : qcd 136 3 = some (.aload_n 0, 1) := by decide +kernel
theorem c136_4 : qcd 136 4 = some (.getfield 194, 3) := by decide +kernel
theorem c136_7 : qcd 136 7 = some (.iconst 1, 1) := by decide +kernel
theorem c136_8 : qcd 136 8 = some (.isub, 1) := by decide +kernel
theorem c136_9 : qcd 136 9 = some (.i2l, 1) := by decide +kernel
theorem c136_10 : qcd 136 10 = some (.invokestatic 190, 3) := by decide +kernel
theorem c136_13 : qcd 136 13 = some (.ireturn, 1) := by decide +kernel
theorem c137_0 : qcd 137 0 = some (.iload_n 1, 1) := by decide +kernel
theorem c137_1 : qcd 137 1 = some (.i2l, 1) := by decide +kernel
theorem c137_2 : qcd 137 2 = some (.lconst 0, 1) := by decide +kernel
theorem c137_3 : qcd 137 3 = some (.aload_n 0, 1) := by decide +kernel
theorem c137_4 : qcd 137 4 = some (.getfield 197, 3) := by decide +kernel
theorem c137_7 : qcd 137 7 = some (.iconst 1, 1) := by decide +kernel
theorem c137_8 : qcd 137 8 = some (.isub, 1) := by decide +kernel
theorem c137_9 : qcd 137 9 = some (.i2l, 1) := by decide +kernel
theorem c137_10 : qcd 137 10 = some (.invokestatic 190, 3) := by decide +kernel
theorem c137_13 : qcd 137 13 = some (.ireturn, 1) := by decide +kernel
theorem c138_0 : qcd 138 0 = some (.aload_n 0, 1) := by decide +kernel
theorem c138_1 : qcd 138 1 = some (.invokevirtual 332, 3) := by decide +kernel
theorem c138_4 : qcd 138 4 = some (.bipush 38, 2) := by decide +kernel
theorem c138_6 : qcd 138 6 = some (.if_icmp .eq 16, 3) := by decide +kernel
theorem c138_9 : qcd 138 9 = some (.iload_n 1, 1) := by decide +kernel
theorem c138_10 : qcd 138 10 = some (.ifCond .eq 34, 3) := by decide +kernel
theorem c138_13 : qcd 138 13 = some (.aload_n 0, 1) := by decide +kernel
theorem c138_14 : qcd 138 14 = some (.invokevirtual 332, 3) := by decide +kernel
theorem c138_17 : qcd 138 17 = some (.bipush 124, 2) := by decide +kernel
theorem c138_19 : qcd 138 19 = some (.if_icmp .ne 25, 3) := by decide +kernel
theorem c138_22 : qcd 138 22 = some (.aload_n 0, 1) := by decide +kernel
theorem c138_23 : qcd 138 23 = some (.aload_n 0, 1) := by decide +kernel
theorem c138_24 : qcd 138 24 = some (.invokevirtual 332, 3) := by decide +kernel
theorem c138_27 : qcd 138 27 = some (.iconst 0, 1) := by decide +kernel
theorem c138_28 : qcd 138 28 = some (.invokevirtual 341, 3) := by decide +kernel
theorem c138_31 : qcd 138 31 = some (.aload_n 0, 1) := by decide +kernel
theorem c138_32 : qcd 138 32 = some (.dup, 1) := by decide +kernel
theorem c138_33 : qcd 138 33 = some (.getfield 306, 3) := by decide +kernel
theorem c138_36 : qcd 138 36 = some (.iconst 1, 1) := by decide +kernel
theorem c138_37 : qcd 138 37 = some (.isub, 1) := by decide +kernel
theorem c138_38 : qcd 138 38 = some (.putfield 306, 3) := by decide +kernel
theorem c138_41 : qcd 138 41 = some (.goto (-41), 3) := by decide +kernel
theorem c138_44 : qcd 138 44 = some (.return_, 1) := by decide +kernel
theorem c139_0 : qcd 139 0 = some (.aload_n 0, 1) := by decide +kernel
theorem c139_1 : qcd 139 1 = some (.iload_n 1, 1) := by decide +kernel
theorem c139_2 : qcd 139 2 = some (.invokevirtual 490, 3) := by decide +kernel
theorem c139_5 : qcd 139 5 = some (.ifCond .eq 10, 3) := by decide +kernel
theorem c139_8 : qcd 139 8 = some (.iload_n 2, 1) := by decide +kernel
theorem c139_9 : qcd 139 9 = some (.invokestatic 493, 3) := by decide +kernel
theorem c139_12 : qcd 139 12 = some (.ifCond .ne 5, 3) := by decide +kernel
theorem c139_15 : qcd 139 15 = some (.iconst (-1), 1) := by decide +kernel
theorem c139_16 : qcd 139 16 = some (.ireturn, 1) := by decide +kernel
theorem c139_17 : qcd 139 17 = some (.aload_n 0, 1) := by decide +kernel
theorem c139_18 : qcd 139 18 = some (.getfield 202, 3) := by decide +kernel
theorem c139_21 : qcd 139 21 = some (.istore_n 3, 1) := by decide +kernel
theorem c139_22 : qcd 139 22 = some (.iload_n 3, 1) := by decide +kernel
theorem c139_23 : qcd 139 23 = some (.ifCond .lt 21, 3) := by decide +kernel
theorem c139_26 : qcd 139 26 = some (.aload_n 0, 1) := by decide +kernel
theorem c139_27 : qcd 139 27 = some (.iload_n 3, 1) := by decide +kernel
theorem c139_28 : qcd 139 28 = some (.iload_n 1, 1) := by decide +kernel
theorem c139_29 : qcd 139 29 = some (.iload_n 2, 1) := by decide +kernel
theorem c139_30 : qcd 139 30 = some (.invokevirtual 496, 3) := by decide +kernel
theorem c139_33 : qcd 139 33 = some (.ifCond .eq 5, 3) := by decide +kernel
theorem c139_36 : qcd 139 36 = some (.iload_n 3, 1) := by decide +kernel
theorem c139_37 : qcd 139 37 = some (.ireturn, 1) := by decide +kernel
theorem c139_38 : qcd 139 38 = some (.iinc 3 (-1), 3) := by decide +kernel
theorem c139_41 : qcd 139 41 = some (.goto (-19), 3) := by decide +kernel
theorem c139_44 : qcd 139 44 = some (.iconst (-1), 1) := by decide +kernel
theorem c139_45 : qcd 139 45 = some (.ireturn, 1) := by decide +kernel
theorem c140_0 : qcd 140 0 = some (.iconst 0, 1) := by decide +kernel
theorem c140_1 : qcd 140 1 = some (.istore_n 3, 1) := by decide +kernel
theorem c140_2 : qcd 140 2 = some (.iconst 0, 1) := by decide +kernel
theorem c140_3 : qcd 140 3 = some (.istore 4, 2) := by decide +kernel
theorem c140_5 : qcd 140 5 = some (.iload 4, 2) := by decide +kernel
theorem c140_7 : qcd 140 7 = some (.aload_n 0, 1) := by decide +kernel
theorem c140_8 : qcd 140 8 = some (.getfield 186, 3) := by decide +kernel
theorem c140_11 : qcd 140 11 = some (.if_icmp .ge 48, 3) := by decide +kernel
theorem c140_14 : qcd 140 14 = some (.aload_n 0, 1) := by decide +kernel
theorem c140_15 : qcd 140 15 = some (.getfield 80, 3) := by decide +kernel
theorem c140_18 : qcd 140 18 = some (.iload 4, 2) := by decide +kernel
theorem c140_20 : qcd 140 20 = some (.iconst (-1), 1) := by decide +kernel
theorem c140_21 : qcd 140 21 = some (.iastore, 1) := by decide +kernel
theorem c140_22 : qcd 140 22 = some (.aload_n 0, 1) := by decide +kernel
theorem c140_23 : qcd 140 23 = some (.getfield 58, 3) := by decide +kernel
theorem c140_26 : qcd 140 26 = some (.iload 4, 2) := by decide +kernel
theorem c140_28 : qcd 140 28 = some (.iaload, 1) := by decide +kernel
theorem c140_29 : qcd 140 29 = some (.iload_n 2, 1) := by decide +kernel
theorem c140_30 : qcd 140 30 = some (.if_icmp .ne 23, 3) := by decide +kernel
theorem c140_33 : qcd 140 33 = some (.iload 4, 2) := by decide +kernel
theorem c140_35 : qcd 140 35 = some (.iload_n 2, 1) := by decide +kernel
theorem c140_36 : qcd 140 36 = some (.if_icmp .ne 6, 3) := by decide +kernel
theorem c140_39 : qcd 140 39 = some (.goto 14, 3) := by decide +kernel
theorem c140_42 : qcd 140 42 = some (.aload_n 0, 1) := by decide +kernel
theorem c140_43 : qcd 140 43 = some (.getfield 80, 3) := by decide +kernel
theorem c140_46 : qcd 140 46 = some (.iload 4, 2) := by decide +kernel
theorem c140_48 : qcd 140 48 = some (.iload_n 3, 1) := by decide +kernel
theorem c140_49 : qcd 140 49 = some (.iastore, 1) := by decide +kernel
theorem c140_50 : qcd 140 50 = some (.iinc 3 1, 3) := by decide +kernel
theorem c140_53 : qcd 140 53 = some (.iinc 4 1, 3) := by decide +kernel
theorem c140_56 : qcd 140 56 = some (.goto (-51), 3) := by decide +kernel
theorem c140_59 : qcd 140 59 = some (.iconst 0, 1) := by decide +kernel
theorem c140_60 : qcd 140 60 = some (.istore 4, 2) := by decide +kernel
theorem c140_62 : qcd 140 62 = some (.iload 4, 2) := by decide +kernel
theorem c140_64 : qcd 140 64 = some (.bipush 98, 2) := by decide +kernel
theorem c140_66 : qcd 140 66 = some (.if_icmp .ge 17, 3) := by decide +kernel
theorem c140_69 : qcd 140 69 = some (.aload_n 0, 1) := by decide +kernel
theorem c140_70 : qcd 140 70 = some (.getfield 77, 3) := by decide +kernel
theorem c140_73 : qcd 140 73 = some (.iload 4, 2) := by decide +kernel
theorem c140_75 : qcd 140 75 = some (.lconst 0, 1) := by decide +kernel
theorem c140_76 : qcd 140 76 = some (.lastore, 1) := by decide +kernel
theorem c140_77 : qcd 140 77 = some (.iinc 4 1, 3) := by decide +kernel
theorem c140_80 : qcd 140 80 = some (.goto (-18), 3) := by decide +kernel
theorem c140_83 : qcd 140 83 = some (.iconst 0, 1) := by decide +kernel
theorem c140_84 : qcd 140 84 = some (.istore 4, 2) := by decide +kernel
theorem c140_86 : qcd 140 86 = some (.iload 4, 2) := by decide +kernel
theorem c140_88 : qcd 140 88 = some (.iload_n 3, 1) := by decide +kernel
theorem c140_89 : qcd 140 89 = some (.if_icmp .ge 26, 3) := by decide +kernel
theorem c140_92 : qcd 140 92 = some (.aload_n 0, 1) := by decide +kernel
theorem c140_93 : qcd 140 93 = some (.getfield 77, 3) := by decide +kernel
theorem c140_96 : qcd 140 96 = some (.bipush 14, 2) := by decide +kernel
theorem c140_98 : qcd 140 98 = some (.iload 4, 2) := by decide +kernel
theorem c140_100 : qcd 140 100 = some (.imul, 1) := by decide +kernel
theorem c140_101 : qcd 140 101 = some (.bipush 7, 2) := by decide +kernel
theorem c140_103 : qcd 140 103 = some (.iadd, 1) := by decide +kernel
theorem c140_104 : qcd 140 104 = some (.iload 4, 2) := by decide +kernel
theorem c140_106 : qcd 140 106 = some (.iadd, 1) := by decide +kernel
theorem c140_107 : qcd 140 107 = some (.lconst 1, 1) := by decide +kernel
theorem c140_108 : qcd 140 108 = some (.lastore, 1) := by decide +kernel
theorem c140_109 : qcd 140 109 = some (.iinc 4 1, 3) := by decide +kernel
theorem c140_112 : qcd 140 112 = some (.goto (-26), 3) := by decide +kernel
theorem c140_115 : qcd 140 115 = some (.iconst 0, 1) := by decide +kernel
theorem c140_116 : qcd 140 116 = some (.istore 4, 2) := by decide +kernel
theorem c140_118 : qcd 140 118 = some (.iload 4, 2) := by decide +kernel
theorem c140_120 : qcd 140 120 = some (.aload_n 0, 1) := by decide +kernel
theorem c140_121 : qcd 140 121 = some (.getfield 194, 3) := by decide +kernel
theorem c140_124 : qcd 140 124 = some (.if_icmp .ge 185, 3) := by decide +kernel
theorem c140_127 : qcd 140 127 = some (.aload_n 0, 1) := by decide +kernel
theorem c140_128 : qcd 140 128 = some (.getfield 14, 3) := by decide +kernel
theorem c140_131 : qcd 140 131 = some (.iload_n 1, 1) := by decide +kernel
theorem c140_132 : qcd 140 132 = some (.iload 4, 2) := by decide +kernel
theorem c140_134 : qcd 140 134 = some (.iadd, 1) := by decide +kernel
theorem c140_135 : qcd 140 135 = some (.iaload, 1) := by decide +kernel
theorem c140_136 : qcd 140 136 = some (.ifCond .ne 167, 3) := by decide +kernel
theorem c140_139 : qcd 140 139 = some (.aload_n 0, 1) := by decide +kernel
theorem c140_140 : qcd 140 140 = some (.getfield 58, 3) := by decide +kernel
theorem c140_143 : qcd 140 143 = some (.aload_n 0, 1) := by decide +kernel
theorem c140_144 : qcd 140 144 = some (.getfield 24, 3) := by decide +kernel
theorem c140_147 : qcd 140 147 = some (.iload 4, 2) := by decide +kernel
theorem c140_149 : qcd 140 149 = some (.iaload, 1) := by decide +kernel
theorem c140_150 : qcd 140 150 = some (.iaload, 1) := by decide +kernel
theorem c140_151 : qcd 140 151 = some (.iload_n 2, 1) := by decide +kernel
theorem c140_152 : qcd 140 152 = some (.if_icmp .eq 6, 3) := by decide +kernel
theorem c140_155 : qcd 140 155 = some (.goto 148, 3) := by decide +kernel
theorem c140_158 : qcd 140 158 = some (.aload_n 0, 1) := by decide +kernel
theorem c140_159 : qcd 140 159 = some (.getfield 80, 3) := by decide +kernel
theorem c140_162 : qcd 140 162 = some (.aload_n 0, 1) := by decide +kernel
theorem c140_163 : qcd 140 163 = some (.getfield 24, 3) := by decide +kernel
theorem c140_166 : qcd 140 166 = some (.iload 4, 2) := by decide +kernel
theorem c140_168 : qcd 140 168 = some (.iaload, 1) := by decide +kernel
theorem c140_169 : qcd 140 169 = some (.iaload, 1) := by decide +kernel
theorem c140_170 : qcd 140 170 = some (.istore 5, 2) := by decide +kernel
theorem c140_172 : qcd 140 172 = some (.aload_n 0, 1) := by decide +kernel
theorem c140_173 : qcd 140 173 = some (.getfield 80, 3) := by decide +kernel
theorem c140_176 : qcd 140 176 = some (.aload_n 0, 1) := by decide +kernel
theorem c140_177 : qcd 140 177 = some (.getfield 27, 3) := by decide +kernel
theorem c140_180 : qcd 140 180 = some (.iload 4, 2) := by decide +kernel
theorem c140_182 : qcd 140 182 = some (.iaload, 1) := by decide +kernel
theorem c140_183 : qcd 140 183 = some (.iaload, 1) := by decide +kernel
theorem c140_184 : qcd 140 184 = some (.istore 6, 2) := by decide +kernel
theorem c140_186 : qcd 140 186 = some (.iload 5, 2) := by decide +kernel
theorem c140_188 : qcd 140 188 = some (.iconst (-1), 1) := by decide +kernel
theorem c140_189 : qcd 140 189 = some (.if_icmp .eq 24, 3) := by decide +kernel
theorem c140_192 : qcd 140 192 = some (.aload_n 0, 1) := by decide +kernel
theorem c140_193 : qcd 140 193 = some (.getfield 77, 3) := by decide +kernel
theorem c140_196 : qcd 140 196 = some (.bipush 15, 2) := by decide +kernel
theorem c140_198 : qcd 140 198 = some (.iload 5, 2) := by decide +kernel
theorem c140_200 : qcd 140 200 = some (.imul, 1) := by decide +kernel
theorem c140_201 : qcd 140 201 = some (.dup2, 1) := by decide +kernel
theorem c140_202 : qcd 140 202 = some (.laload, 1) := by decide +kernel
theorem c140_203 : qcd 140 203 = some (.aload_n 0, 1) := by decide +kernel
theorem c140_204 : qcd 140 204 = some (.getfield 30, 3) := by decide +kernel
theorem c140_207 : qcd 140 207 = some (.iload 4, 2) := by decide +kernel
theorem c140_209 : qcd 140 209 = some (.iaload, 1) := by decide +kernel
theorem c140_210 : qcd 140 210 = some (.i2l, 1) := by decide +kernel
theorem c140_211 : qcd 140 211 = some (.ladd, 1) := by decide +kernel
theorem c140_212 : qcd 140 212 = some (.lastore, 1) := by decide +kernel
theorem c140_213 : qcd 140 213 = some (.iload 6, 2) := by decide +kernel
theorem c140_215 : qcd 140 215 = some (.iconst (-1), 1) := by decide +kernel
theorem c140_216 : qcd 140 216 = some (.if_icmp .eq 24, 3) := by decide +kernel
theorem c140_219 : qcd 140 219 = some (.aload_n 0, 1) := by decide +kernel
theorem c140_220 : qcd 140 220 = some (.getfield 77, 3) := by decide +kernel
theorem c140_223 : qcd 140 223 = some (.bipush 15, 2) := by decide +kernel
theorem c140_225 : qcd 140 225 = some (.iload 6, 2) := by decide +kernel
theorem c140_227 : qcd 140 227 = some (.imul, 1) := by decide +kernel
theorem c140_228 : qcd 140 228 = some (.dup2, 1) := by decide +kernel
theorem c140_229 : qcd 140 229 = some (.laload, 1) := by decide +kernel
theorem c140_230 : qcd 140 230 = some (.aload_n 0, 1) := by decide +kernel
theorem c140_231 : qcd 140 231 = some (.getfield 30, 3) := by decide +kernel
theorem c140_234 : qcd 140 234 = some (.iload 4, 2) := by decide +kernel
theorem c140_236 : qcd 140 236 = some (.iaload, 1) := by decide +kernel
theorem c140_237 : qcd 140 237 = some (.i2l, 1) := by decide +kernel
theorem c140_238 : qcd 140 238 = some (.ladd, 1) := by decide +kernel
theorem c140_239 : qcd 140 239 = some (.lastore, 1) := by decide +kernel
theorem c140_240 : qcd 140 240 = some (.iload 5, 2) := by decide +kernel
theorem c140_242 : qcd 140 242 = some (.iconst (-1), 1) := by decide +kernel
theorem c140_243 : qcd 140 243 = some (.if_icmp .eq 60, 3) := by decide +kernel
theorem c140_246 : qcd 140 246 = some (.iload 6, 2) := by decide +kernel
theorem c140_248 : qcd 140 248 = some (.iconst (-1), 1) := by decide +kernel
theorem c140_249 : qcd 140 249 = some (.if_icmp .ne 6, 3) := by decide +kernel
theorem c140_252 : qcd 140 252 = some (.goto 51, 3) := by decide +kernel
theorem c140_255 : qcd 140 255 = some (.aload_n 0, 1) := by decide +kernel
theorem c140_256 : qcd 140 256 = some (.getfield 77, 3) := by decide +kernel
theorem c140_259 : qcd 140 259 = some (.bipush 14, 2) := by decide +kernel
theorem c140_261 : qcd 140 261 = some (.iload 5, 2) := by decide +kernel
theorem c140_263 : qcd 140 263 = some (.imul, 1) := by decide +kernel
theorem c140_264 : qcd 140 264 = some (.iload 6, 2) := by decide +kernel
theorem c140_266 : qcd 140 266 = some (.iadd, 1) := by decide +kernel
theorem c140_267 : qcd 140 267 = some (.dup2, 1) := by decide +kernel
theorem c140_268 : qcd 140 268 = some (.laload, 1) := by decide +kernel
theorem c140_269 : qcd 140 269 = some (.aload_n 0, 1) := by decide +kernel
theorem c140_270 : qcd 140 270 = some (.getfield 30, 3) := by decide +kernel
theorem c140_273 : qcd 140 273 = some (.iload 4, 2) := by decide +kernel
theorem c140_275 : qcd 140 275 = some (.iaload, 1) := by decide +kernel
theorem c140_276 : qcd 140 276 = some (.i2l, 1) := by decide +kernel
theorem c140_277 : qcd 140 277 = some (.lsub, 1) := by decide +kernel
theorem c140_278 : qcd 140 278 = some (.lastore, 1) := by decide +kernel
theorem c140_279 : qcd 140 279 = some (.aload_n 0, 1) := by decide +kernel
theorem c140_280 : qcd 140 280 = some (.getfield 77, 3) := by decide +kernel
theorem c140_283 : qcd 140 283 = some (.bipush 14, 2) := by decide +kernel
theorem c140_285 : qcd 140 285 = some (.iload 6, 2) := by decide +kernel
theorem c140_287 : qcd 140 287 = some (.imul, 1) := by decide +kernel
theorem c140_288 : qcd 140 288 = some (.iload 5, 2) := by decide +kernel
theorem c140_290 : qcd 140 290 = some (.iadd, 1) := by decide +kernel
theorem c140_291 : qcd 140 291 = some (.dup2, 1) := by decide +kernel
theorem c140_292 : qcd 140 292 = some (.laload, 1) := by decide +kernel
theorem c140_293 : qcd 140 293 = some (.aload_n 0, 1) := by decide +kernel
theorem c140_294 : qcd 140 294 = some (.getfield 30, 3) := by decide +kernel
theorem c140_297 : qcd 140 297 = some (.iload 4, 2) := by decide +kernel
theorem c140_299 : qcd 140 299 = some (.iaload, 1) := by decide +kernel
theorem c140_300 : qcd 140 300 = some (.i2l, 1) := by decide +kernel
theorem c140_301 : qcd 140 301 = some (.lsub, 1) := by decide +kernel
theorem c140_302 : qcd 140 302 = some (.lastore, 1) := by decide +kernel
theorem c140_303 : qcd 140 303 = some (.iinc 4 1, 3) := by decide +kernel
theorem c140_306 : qcd 140 306 = some (.goto (-188), 3) := by decide +kernel
theorem c140_309 : qcd 140 309 = some (.iload_n 3, 1) := by decide +kernel
theorem c140_310 : qcd 140 310 = some (.ireturn, 1) := by decide +kernel
theorem c141_0 : qcd 141 0 = some (.iload_n 1, 1) := by decide +kernel
theorem c141_1 : qcd 141 1 = some (.i2l, 1) := by decide +kernel
theorem c141_2 : qcd 141 2 = some (.lconst 0, 1) := by decide +kernel
theorem c141_3 : qcd 141 3 = some (.aload_n 0, 1) := by decide +kernel
theorem c141_4 : qcd 141 4 = some (.getfield 202, 3) := by decide +kernel
theorem c141_7 : qcd 141 7 = some (.i2l, 1) := by decide +kernel
theorem c141_8 : qcd 141 8 = some (.invokestatic 190, 3) := by decide +kernel
theorem c141_11 : qcd 141 11 = some (.ifCond .eq 10, 3) := by decide +kernel
theorem c141_14 : qcd 141 14 = some (.iload_n 2, 1) := by decide +kernel
theorem c141_15 : qcd 141 15 = some (.invokestatic 493, 3) := by decide +kernel
theorem c141_18 : qcd 141 18 = some (.ifCond .ne 5, 3) := by decide +kernel
theorem c141_21 : qcd 141 21 = some (.iconst (-1), 1) := by decide +kernel
theorem c141_22 : qcd 141 22 = some (.ireturn, 1) := by decide +kernel
theorem c141_23 : qcd 141 23 = some (.iload_n 1, 1) := by decide +kernel
theorem c141_24 : qcd 141 24 = some (.aload_n 0, 1) := by decide +kernel
theorem c141_25 : qcd 141 25 = some (.getfield 202, 3) := by decide +kernel
theorem c141_28 : qcd 141 28 = some (.if_icmp .ne 8, 3) := by decide +kernel
theorem c141_31 : qcd 141 31 = some (.ldc 230, 2) := by decide +kernel
theorem c141_33 : qcd 141 33 = some (.goto 7, 3) := by decide +kernel
theorem c141_36 : qcd 141 36 = some (.bipush 72, 2) := by decide +kernel
theorem c141_38 : qcd 141 38 = some (.iload_n 1, 1) := by decide +kernel
theorem c141_39 : qcd 141 39 = some (.imul, 1) := by decide +kernel
theorem c141_40 : qcd 141 40 = some (.istore_n 3, 1) := by decide +kernel
theorem c141_41 : qcd 141 41 = some (.bipush (-2), 2) := by decide +kernel
theorem c141_43 : qcd 141 43 = some (.istore 4, 2) := by decide +kernel
theorem c141_45 : qcd 141 45 = some (.iconst 0, 1) := by decide +kernel
theorem c141_46 : qcd 141 46 = some (.istore 5, 2) := by decide +kernel
theorem c141_48 : qcd 141 48 = some (.iconst 0, 1) := by decide +kernel
theorem c141_49 : qcd 141 49 = some (.istore 6, 2) := by decide +kernel
theorem c141_51 : qcd 141 51 = some (.iload 6, 2) := by decide +kernel
theorem c141_53 : qcd 141 53 = some (.iconst 1, 1) := by decide +kernel
theorem c141_54 : qcd 141 54 = some (.aload_n 0, 1) := by decide +kernel
theorem c141_55 : qcd 141 55 = some (.getfield 186, 3) := by decide +kernel
theorem c141_58 : qcd 141 58 = some (.ishl, 1) := by decide +kernel
theorem c141_59 : qcd 141 59 = some (.if_icmp .ge 110, 3) := by decide +kernel
theorem c141_62 : qcd 141 62 = some (.iconst 0, 1) := by decide +kernel
theorem c141_63 : qcd 141 63 = some (.istore 7, 2) := by decide +kernel
theorem c141_65 : qcd 141 65 = some (.iconst 0, 1) := by decide +kernel
theorem c141_66 : qcd 141 66 = some (.istore 8, 2) := by decide +kernel
theorem c141_68 : qcd 141 68 = some (.iload 8, 2) := by decide +kernel
theorem c141_70 : qcd 141 70 = some (.aload_n 0, 1) := by decide +kernel
theorem c141_71 : qcd 141 71 = some (.getfield 186, 3) := by decide +kernel
theorem c141_74 : qcd 141 74 = some (.if_icmp .ge 35, 3) := by decide +kernel
theorem c141_77 : qcd 141 77 = some (.iload 7, 2) := by decide +kernel
theorem c141_79 : qcd 141 79 = some (.iload 6, 2) := by decide +kernel
theorem c141_81 : qcd 141 81 = some (.iload 8, 2) := by decide +kernel
theorem c141_83 : qcd 141 83 = some (.invokestatic 248, 3) := by decide +kernel
theorem c141_86 : qcd 141 86 = some (.ifCond .eq 13, 3) := by decide +kernel
theorem c141_89 : qcd 141 89 = some (.aload_n 0, 1) := by decide +kernel
theorem c141_90 : qcd 141 90 = some (.iload_n 3, 1) := by decide +kernel
theorem c141_91 : qcd 141 91 = some (.iload 8, 2) := by decide +kernel
theorem c141_93 : qcd 141 93 = some (.invokevirtual 235, 3) := by decide +kernel
theorem c141_96 : qcd 141 96 = some (.goto 4, 3) := by decide +kernel
theorem c141_99 : qcd 141 99 = some (.iconst 0, 1) := by decide +kernel
theorem c141_100 : qcd 141 100 = some (.iadd, 1) := by decide +kernel
theorem c141_101 : qcd 141 101 = some (.istore 7, 2) := by decide +kernel
theorem c141_103 : qcd 141 103 = some (.iinc 8 1, 3) := by decide +kernel
theorem c141_106 : qcd 141 106 = some (.goto (-38), 3) := by decide +kernel
theorem c141_109 : qcd 141 109 = some (.iload 4, 2) := by decide +kernel
theorem c141_111 : qcd 141 111 = some (.ifCond .lt 30, 3) := by decide +kernel
theorem c141_114 : qcd 141 114 = some (.iload 7, 2) := by decide +kernel
theorem c141_116 : qcd 141 116 = some (.iload 5, 2) := by decide +kernel
theorem c141_118 : qcd 141 118 = some (.if_icmp .gt 45, 3) := by decide +kernel
theorem c141_121 : qcd 141 121 = some (.iload 7, 2) := by decide +kernel
theorem c141_123 : qcd 141 123 = some (.iload 5, 2) := by decide +kernel
theorem c141_125 : qcd 141 125 = some (.if_icmp .ne 16, 3) := by decide +kernel
theorem c141_128 : qcd 141 128 = some (.iload 6, 2) := by decide +kernel
theorem c141_130 : qcd 141 130 = some (.invokestatic 500, 3) := by decide +kernel
theorem c141_133 : qcd 141 133 = some (.iload 4, 2) := by decide +kernel
theorem c141_135 : qcd 141 135 = some (.invokestatic 500, 3) := by decide +kernel
theorem c141_138 : qcd 141 138 = some (.if_icmp .ge 25, 3) := by decide +kernel
theorem c141_141 : qcd 141 141 = some (.aload_n 0, 1) := by decide +kernel
theorem c141_142 : qcd 141 142 = some (.iload_n 1, 1) := by decide +kernel
theorem c141_143 : qcd 141 143 = some (.iload 6, 2) := by decide +kernel
theorem c141_145 : qcd 141 145 = some (.iload_n 2, 1) := by decide +kernel
theorem c141_146 : qcd 141 146 = some (.invokevirtual 496, 3) := by decide +kernel
theorem c141_149 : qcd 141 149 = some (.ifCond .ne 6, 3) := by decide +kernel
theorem c141_152 : qcd 141 152 = some (.goto 11, 3) := by decide +kernel
theorem c141_155 : qcd 141 155 = some (.iload 6, 2) := by decide +kernel
theorem c141_157 : qcd 141 157 = some (.istore 4, 2) := by decide +kernel
theorem c141_159 : qcd 141 159 = some (.iload 7, 2) := by decide +kernel
theorem c141_161 : qcd 141 161 = some (.istore 5, 2) := by decide +kernel
theorem c141_163 : qcd 141 163 = some (.iinc 6 1, 3) := by decide +kernel
theorem c141_166 : qcd 141 166 = some (.goto (-115), 3) := by decide +kernel
theorem c141_169 : qcd 141 169 = some (.iload 4, 2) := by decide +kernel
theorem c141_171 : qcd 141 171 = some (.ireturn, 1) := by decide +kernel
