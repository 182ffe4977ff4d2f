/-! Instructions by their place. -/
theorem c142_0 : qcd 142 0 = some (.aload_n 0, 1) := by decide +kernel
theorem c142_1 : qcd 142 1 = some (.getfield 140, 3) := by decide +kernel
theorem c142_4 : qcd 142 4 = some (.iload_n 1, 1) := by decide +kernel
theorem c142_5 : qcd 142 5 = some (.iaload, 1) := by decide +kernel
theorem c142_6 : qcd 142 6 = some (.istore_n 3, 1) := by decide +kernel
theorem c142_7 : qcd 142 7 = some (.iload_n 3, 1) := by decide +kernel
theorem c142_8 : qcd 142 8 = some (.ifCond .eq 20, 3) := by decide +kernel
theorem c142_11 : qcd 142 11 = some (.aload_n 0, 1) := by decide +kernel
theorem c142_12 : qcd 142 12 = some (.getfield 146, 3) := by decide +kernel
theorem c142_15 : qcd 142 15 = some (.iload_n 1, 1) := by decide +kernel
theorem c142_16 : qcd 142 16 = some (.iaload, 1) := by decide +kernel
theorem c142_17 : qcd 142 17 = some (.aload_n 0, 1) := by decide +kernel
theorem c142_18 : qcd 142 18 = some (.getfield 146, 3) := by decide +kernel
theorem c142_21 : qcd 142 21 = some (.iload_n 2, 1) := by decide +kernel
theorem c142_22 : qcd 142 22 = some (.iaload, 1) := by decide +kernel
theorem c142_23 : qcd 142 23 = some (.iconst 1, 1) := by decide +kernel
theorem c142_24 : qcd 142 24 = some (.isub, 1) := by decide +kernel
theorem c142_25 : qcd 142 25 = some (.if_icmp .eq 5, 3) := by decide +kernel
theorem c142_28 : qcd 142 28 = some (.iconst 0, 1) := by decide +kernel
theorem c142_29 : qcd 142 29 = some (.ireturn, 1) := by decide +kernel
theorem c142_30 : qcd 142 30 = some (.aload_n 0, 1) := by decide +kernel
theorem c142_31 : qcd 142 31 = some (.bipush 72, 2) := by decide +kernel
theorem c142_33 : qcd 142 33 = some (.aload_n 0, 1) := by decide +kernel
theorem c142_34 : qcd 142 34 = some (.getfield 146, 3) := by decide +kernel
theorem c142_37 : qcd 142 37 = some (.iload_n 2, 1) := by decide +kernel
theorem c142_38 : qcd 142 38 = some (.iaload, 1) := by decide +kernel
theorem c142_39 : qcd 142 39 = some (.imul, 1) := by decide +kernel
theorem c142_40 : qcd 142 40 = some (.ldc_w 471, 3) := by decide +kernel
theorem c142_43 : qcd 142 43 = some (.invokevirtual 444, 3) := by decide +kernel
theorem c142_46 : qcd 142 46 = some (.aload_n 0, 1) := by decide +kernel
theorem c142_47 : qcd 142 47 = some (.getfield 14, 3) := by decide +kernel
theorem c142_50 : qcd 142 50 = some (.ldc_w 472, 3) := by decide +kernel
theorem c142_53 : qcd 142 53 = some (.aload_n 0, 1) := by decide +kernel
theorem c142_54 : qcd 142 54 = some (.getfield 14, 3) := by decide +kernel
theorem c142_57 : qcd 142 57 = some (.ldc 185, 2) := by decide +kernel
theorem c142_59 : qcd 142 59 = some (.iaload, 1) := by decide +kernel
theorem c142_60 : qcd 142 60 = some (.iastore, 1) := by decide +kernel
theorem c142_61 : qcd 142 61 = some (.iload_n 3, 1) := by decide +kernel
theorem c142_62 : qcd 142 62 = some (.iconst 3, 1) := by decide +kernel
theorem c142_63 : qcd 142 63 = some (.if_icmp .ge 22, 3) := by decide +kernel
theorem c142_66 : qcd 142 66 = some (.aload_n 0, 1) := by decide +kernel
theorem c142_67 : qcd 142 67 = some (.getfield 14, 3) := by decide +kernel
theorem c142_70 : qcd 142 70 = some (.ldc_w 471, 3) := by decide +kernel
theorem c142_73 : qcd 142 73 = some (.aload_n 0, 1) := by decide +kernel
theorem c142_74 : qcd 142 74 = some (.getfield 143, 3) := by decide +kernel
theorem c142_77 : qcd 142 77 = some (.iload_n 1, 1) := by decide +kernel
theorem c142_78 : qcd 142 78 = some (.iaload, 1) := by decide +kernel
theorem c142_79 : qcd 142 79 = some (.iadd, 1) := by decide +kernel
theorem c142_80 : qcd 142 80 = some (.iconst 0, 1) := by decide +kernel
theorem c142_81 : qcd 142 81 = some (.iastore, 1) := by decide +kernel
theorem c142_82 : qcd 142 82 = some (.goto 19, 3) := by decide +kernel
theorem c142_85 : qcd 142 85 = some (.aload_n 0, 1) := by decide +kernel
theorem c142_86 : qcd 142 86 = some (.getfield 14, 3) := by decide +kernel
theorem c142_89 : qcd 142 89 = some (.ldc_w 473, 3) := by decide +kernel
theorem c142_92 : qcd 142 92 = some (.aload_n 0, 1) := by decide +kernel
theorem c142_93 : qcd 142 93 = some (.getfield 143, 3) := by decide +kernel
theorem c142_96 : qcd 142 96 = some (.iload_n 1, 1) := by decide +kernel
theorem c142_97 : qcd 142 97 = some (.iaload, 1) := by decide +kernel
theorem c142_98 : qcd 142 98 = some (.iadd, 1) := by decide +kernel
theorem c142_99 : qcd 142 99 = some (.iconst 1, 1) := by decide +kernel
theorem c142_100 : qcd 142 100 = some (.iastore, 1) := by decide +kernel
theorem c142_101 : qcd 142 101 = some (.aload_n 0, 1) := by decide +kernel
theorem c142_102 : qcd 142 102 = some (.ldc_w 471, 3) := by decide +kernel
theorem c142_105 : qcd 142 105 = some (.invokevirtual 458, 3) := by decide +kernel
theorem c142_108 : qcd 142 108 = some (.iconst 0, 1) := by decide +kernel
theorem c142_109 : qcd 142 109 = some (.istore 4, 2) := by decide +kernel
theorem c142_111 : qcd 142 111 = some (.iload 4, 2) := by decide +kernel
theorem c142_113 : qcd 142 113 = some (.aload_n 0, 1) := by decide +kernel
theorem c142_114 : qcd 142 114 = some (.getfield 424, 3) := by decide +kernel
theorem c142_117 : qcd 142 117 = some (.if_icmp .ge 43, 3) := by decide +kernel
theorem c142_120 : qcd 142 120 = some (.aload_n 0, 1) := by decide +kernel
theorem c142_121 : qcd 142 121 = some (.getfield 125, 3) := by decide +kernel
theorem c142_124 : qcd 142 124 = some (.iload 4, 2) := by decide +kernel
theorem c142_126 : qcd 142 126 = some (.iaload, 1) := by decide +kernel
theorem c142_127 : qcd 142 127 = some (.aload_n 0, 1) := by decide +kernel
theorem c142_128 : qcd 142 128 = some (.getfield 140, 3) := by decide +kernel
theorem c142_131 : qcd 142 131 = some (.iload_n 2, 1) := by decide +kernel
theorem c142_132 : qcd 142 132 = some (.iaload, 1) := by decide +kernel
theorem c142_133 : qcd 142 133 = some (.if_icmp .ne 21, 3) := by decide +kernel
theorem c142_136 : qcd 142 136 = some (.aload_n 0, 1) := by decide +kernel
theorem c142_137 : qcd 142 137 = some (.getfield 128, 3) := by decide +kernel
theorem c142_140 : qcd 142 140 = some (.iload 4, 2) := by decide +kernel
theorem c142_142 : qcd 142 142 = some (.iaload, 1) := by decide +kernel
theorem c142_143 : qcd 142 143 = some (.aload_n 0, 1) := by decide +kernel
theorem c142_144 : qcd 142 144 = some (.getfield 143, 3) := by decide +kernel
theorem c142_147 : qcd 142 147 = some (.iload_n 2, 1) := by decide +kernel
theorem c142_148 : qcd 142 148 = some (.iaload, 1) := by decide +kernel
theorem c142_149 : qcd 142 149 = some (.if_icmp .ne 5, 3) := by decide +kernel
theorem c142_152 : qcd 142 152 = some (.iconst 0, 1) := by decide +kernel
theorem c142_153 : qcd 142 153 = some (.ireturn, 1) := by decide +kernel
theorem c142_154 : qcd 142 154 = some (.iinc 4 1, 3) := by decide +kernel
theorem c142_157 : qcd 142 157 = some (.goto (-46), 3) := by decide +kernel
theorem c142_160 : qcd 142 160 = some (.iconst 1, 1) := by decide +kernel
theorem c142_161 : qcd 142 161 = some (.ireturn, 1) := by decide +kernel
theorem c143_0 : qcd 143 0 = some (.lload_n 0, 1) := by decide +kernel
theorem c143_1 : qcd 143 1 = some (.lload_n 2, 1) := by decide +kernel
theorem c143_2 : qcd 143 2 = some (.lcmp, 1) := by decide +kernel
theorem c143_3 : qcd 143 3 = some (.ifCond .lt 14, 3) := by decide +kernel
theorem c143_6 : qcd 143 6 = some (.lload_n 0, 1) := by decide +kernel
theorem c143_7 : qcd 143 7 = some (.lload 4, 2) := by decide +kernel
theorem c143_9 : qcd 143 9 = some (.lcmp, 1) := by decide +kernel
theorem c143_10 : qcd 143 10 = some (.ifCond .gt 7, 3) := by decide +kernel
theorem c143_13 : qcd 143 13 = some (.iconst 1, 1) := by decide +kernel
theorem c143_14 : qcd 143 14 = some (.goto 4, 3) := by decide +kernel
theorem c143_17 : qcd 143 17 = some (.iconst 0, 1) := by decide +kernel
theorem c143_18 : qcd 143 18 = some (.ireturn, 1) := by decide +kernel
theorem c144_0 : qcd 144 0 = some (.aload_n 0, 1) := by decide +kernel
theorem c144_1 : qcd 144 1 = some (.iload_n 1, 1) := by decide +kernel
theorem c144_2 : qcd 144 2 = some (.invokevirtual 214, 3) := by decide +kernel
theorem c144_5 : qcd 144 5 = some (.ifCond .eq 15, 3) := by decide +kernel
theorem c144_8 : qcd 144 8 = some (.iload_n 2, 1) := by decide +kernel
theorem c144_9 : qcd 144 9 = some (.i2l, 1) := by decide +kernel
theorem c144_10 : qcd 144 10 = some (.lconst 0, 1) := by decide +kernel
theorem c144_11 : qcd 144 11 = some (.ldc2_w 209, 3) := by decide +kernel
theorem c144_14 : qcd 144 14 = some (.invokestatic 190, 3) := by decide +kernel
theorem c144_17 : qcd 144 17 = some (.ifCond .ne 5, 3) := by decide +kernel
theorem c144_20 : qcd 144 20 = some (.iconst 0, 1) := by decide +kernel
theorem c144_21 : qcd 144 21 = some (.ireturn, 1) := by decide +kernel
theorem c144_22 : qcd 144 22 = some (.aload_n 0, 1) := by decide +kernel
theorem c144_23 : qcd 144 23 = some (.getfield 14, 3) := by decide +kernel
theorem c144_26 : qcd 144 26 = some (.ldc 213, 2) := by decide +kernel
theorem c144_28 : qcd 144 28 = some (.iload_n 1, 1) := by decide +kernel
theorem c144_29 : qcd 144 29 = some (.iadd, 1) := by decide +kernel
theorem c144_30 : qcd 144 30 = some (.iload_n 2, 1) := by decide +kernel
theorem c144_31 : qcd 144 31 = some (.iastore, 1) := by decide +kernel
theorem c144_32 : qcd 144 32 = some (.iconst 1, 1) := by decide +kernel
theorem c144_33 : qcd 144 33 = some (.ireturn, 1) := by decide +kernel
theorem c145_0 : qcd 145 0 = some (.aload_n 0, 1) := by decide +kernel
theorem c145_1 : qcd 145 1 = some (.getfield 14, 3) := by decide +kernel
theorem c145_4 : qcd 145 4 = some (.iload_n 1, 1) := by decide +kernel
theorem c145_5 : qcd 145 5 = some (.bipush 51, 2) := by decide +kernel
theorem c145_7 : qcd 145 7 = some (.iadd, 1) := by decide +kernel
theorem c145_8 : qcd 145 8 = some (.iload_n 2, 1) := by decide +kernel
theorem c145_9 : qcd 145 9 = some (.iadd, 1) := by decide +kernel
theorem c145_10 : qcd 145 10 = some (.iaload, 1) := by decide +kernel
theorem c145_11 : qcd 145 11 = some (.iconst 1, 1) := by decide +kernel
theorem c145_12 : qcd 145 12 = some (.if_icmp .ne 7, 3) := by decide +kernel
theorem c145_15 : qcd 145 15 = some (.iconst 0, 1) := by decide +kernel
theorem c145_16 : qcd 145 16 = some (.goto 14, 3) := by decide +kernel
theorem c145_19 : qcd 145 19 = some (.aload_n 0, 1) := by decide +kernel
theorem c145_20 : qcd 145 20 = some (.getfield 14, 3) := by decide +kernel
theorem c145_23 : qcd 145 23 = some (.iload_n 1, 1) := by decide +kernel
theorem c145_24 : qcd 145 24 = some (.bipush 59, 2) := by decide +kernel
theorem c145_26 : qcd 145 26 = some (.iadd, 1) := by decide +kernel
theorem c145_27 : qcd 145 27 = some (.iload_n 2, 1) := by decide +kernel
theorem c145_28 : qcd 145 28 = some (.iadd, 1) := by decide +kernel
theorem c145_29 : qcd 145 29 = some (.iaload, 1) := by decide +kernel
theorem c145_30 : qcd 145 30 = some (.ireturn, 1) := by decide +kernel
theorem c146_0 : qcd 146 0 = some (.iconst 0, 1) := by decide +kernel
theorem c146_1 : qcd 146 1 = some (.istore_n 3, 1) := by decide +kernel
theorem c146_2 : qcd 146 2 = some (.iconst 0, 1) := by decide +kernel
theorem c146_3 : qcd 146 3 = some (.istore 4, 2) := by decide +kernel
theorem c146_5 : qcd 146 5 = some (.iload 4, 2) := by decide +kernel
theorem c146_7 : qcd 146 7 = some (.aload_n 0, 1) := by decide +kernel
theorem c146_8 : qcd 146 8 = some (.getfield 186, 3) := by decide +kernel
theorem c146_11 : qcd 146 11 = some (.if_icmp .ge 34, 3) := by decide +kernel
theorem c146_14 : qcd 146 14 = some (.iload_n 3, 1) := by decide +kernel
theorem c146_15 : qcd 146 15 = some (.aload_n 0, 1) := by decide +kernel
theorem c146_16 : qcd 146 16 = some (.getfield 58, 3) := by decide +kernel
theorem c146_19 : qcd 146 19 = some (.iload 4, 2) := by decide +kernel
theorem c146_21 : qcd 146 21 = some (.iaload, 1) := by decide +kernel
theorem c146_22 : qcd 146 22 = some (.iload_n 2, 1) := by decide +kernel
theorem c146_23 : qcd 146 23 = some (.if_icmp .ne 13, 3) := by decide +kernel
theorem c146_26 : qcd 146 26 = some (.aload_n 0, 1) := by decide +kernel
theorem c146_27 : qcd 146 27 = some (.iload_n 1, 1) := by decide +kernel
theorem c146_28 : qcd 146 28 = some (.iload 4, 2) := by decide +kernel
theorem c146_30 : qcd 146 30 = some (.invokevirtual 235, 3) := by decide +kernel
theorem c146_33 : qcd 146 33 = some (.goto 4, 3) := by decide +kernel
theorem c146_36 : qcd 146 36 = some (.iconst 0, 1) := by decide +kernel
theorem c146_37 : qcd 146 37 = some (.iadd, 1) := by decide +kernel
theorem c146_38 : qcd 146 38 = some (.istore_n 3, 1) := by decide +kernel
theorem c146_39 : qcd 146 39 = some (.iinc 4 1, 3) := by decide +kernel
theorem c146_42 : qcd 146 42 = some (.goto (-37), 3) := by decide +kernel
theorem c146_45 : qcd 146 45 = some (.iload_n 3, 1) := by decide +kernel
theorem c146_46 : qcd 146 46 = some (.ireturn, 1) := by decide +kernel
theorem c147_0 : qcd 147 0 = some (.aload_n 0, 1) := by decide +kernel
theorem c147_1 : qcd 147 1 = some (.iload_n 1, 1) := by decide +kernel
theorem c147_2 : qcd 147 2 = some (.invokevirtual 224, 3) := by decide +kernel
theorem c147_5 : qcd 147 5 = some (.ifCond .eq 16, 3) := by decide +kernel
theorem c147_8 : qcd 147 8 = some (.aload_n 0, 1) := by decide +kernel
theorem c147_9 : qcd 147 9 = some (.getfield 14, 3) := by decide +kernel
theorem c147_12 : qcd 147 12 = some (.ldc 230, 2) := by decide +kernel
theorem c147_14 : qcd 147 14 = some (.iload_n 1, 1) := by decide +kernel
theorem c147_15 : qcd 147 15 = some (.iadd, 1) := by decide +kernel
theorem c147_16 : qcd 147 16 = some (.iaload, 1) := by decide +kernel
theorem c147_17 : qcd 147 17 = some (.iconst 3, 1) := by decide +kernel
theorem c147_18 : qcd 147 18 = some (.if_icmp .eq 5, 3) := by decide +kernel
theorem c147_21 : qcd 147 21 = some (.iconst 0, 1) := by decide +kernel
theorem c147_22 : qcd 147 22 = some (.ireturn, 1) := by decide +kernel
theorem c147_23 : qcd 147 23 = some (.aload_n 0, 1) := by decide +kernel
theorem c147_24 : qcd 147 24 = some (.getfield 14, 3) := by decide +kernel
theorem c147_27 : qcd 147 27 = some (.ldc 230, 2) := by decide +kernel
theorem c147_29 : qcd 147 29 = some (.iload_n 1, 1) := by decide +kernel
theorem c147_30 : qcd 147 30 = some (.iadd, 1) := by decide +kernel
theorem c147_31 : qcd 147 31 = some (.iconst 1, 1) := by decide +kernel
theorem c147_32 : qcd 147 32 = some (.iastore, 1) := by decide +kernel
theorem c147_33 : qcd 147 33 = some (.iconst 1, 1) := by decide +kernel
theorem c147_34 : qcd 147 34 = some (.ireturn, 1) := by decide +kernel
theorem c148_0 : qcd 148 0 = some (.iconst 0, 1) := by decide +kernel
theorem c148_1 : qcd 148 1 = some (.istore_n 3, 1) := by decide +kernel
theorem c148_2 : qcd 148 2 = some (.iconst 0, 1) := by decide +kernel
theorem c148_3 : qcd 148 3 = some (.istore 4, 2) := by decide +kernel
theorem c148_5 : qcd 148 5 = some (.iload 4, 2) := by decide +kernel
theorem c148_7 : qcd 148 7 = some (.aload_n 0, 1) := by decide +kernel
theorem c148_8 : qcd 148 8 = some (.getfield 197, 3) := by decide +kernel
theorem c148_11 : qcd 148 11 = some (.if_icmp .ge 55, 3) := by decide +kernel
theorem c148_14 : qcd 148 14 = some (.iload_n 3, 1) := by decide +kernel
theorem c148_15 : qcd 148 15 = some (.aload_n 0, 1) := by decide +kernel
theorem c148_16 : qcd 148 16 = some (.getfield 14, 3) := by decide +kernel
theorem c148_19 : qcd 148 19 = some (.iload_n 1, 1) := by decide +kernel
theorem c148_20 : qcd 148 20 = some (.bipush 42, 2) := by decide +kernel
theorem c148_22 : qcd 148 22 = some (.iadd, 1) := by decide +kernel
theorem c148_23 : qcd 148 23 = some (.iload 4, 2) := by decide +kernel
theorem c148_25 : qcd 148 25 = some (.iadd, 1) := by decide +kernel
theorem c148_26 : qcd 148 26 = some (.iaload, 1) := by decide +kernel
theorem c148_27 : qcd 148 27 = some (.iconst 1, 1) := by decide +kernel
theorem c148_28 : qcd 148 28 = some (.if_icmp .ne 29, 3) := by decide +kernel
theorem c148_31 : qcd 148 31 = some (.aload_n 0, 1) := by decide +kernel
theorem c148_32 : qcd 148 32 = some (.getfield 58, 3) := by decide +kernel
theorem c148_35 : qcd 148 35 = some (.aload_n 0, 1) := by decide +kernel
theorem c148_36 : qcd 148 36 = some (.getfield 42, 3) := by decide +kernel
theorem c148_39 : qcd 148 39 = some (.iload 4, 2) := by decide +kernel
theorem c148_41 : qcd 148 41 = some (.iaload, 1) := by decide +kernel
theorem c148_42 : qcd 148 42 = some (.iaload, 1) := by decide +kernel
theorem c148_43 : qcd 148 43 = some (.iload_n 2, 1) := by decide +kernel
theorem c148_44 : qcd 148 44 = some (.if_icmp .ne 13, 3) := by decide +kernel
theorem c148_47 : qcd 148 47 = some (.aload_n 0, 1) := by decide +kernel
theorem c148_48 : qcd 148 48 = some (.getfield 45, 3) := by decide +kernel
theorem c148_51 : qcd 148 51 = some (.iload 4, 2) := by decide +kernel
theorem c148_53 : qcd 148 53 = some (.iaload, 1) := by decide +kernel
theorem c148_54 : qcd 148 54 = some (.goto 4, 3) := by decide +kernel
theorem c148_57 : qcd 148 57 = some (.iconst 0, 1) := by decide +kernel
theorem c148_58 : qcd 148 58 = some (.iadd, 1) := by decide +kernel
theorem c148_59 : qcd 148 59 = some (.istore_n 3, 1) := by decide +kernel
theorem c148_60 : qcd 148 60 = some (.iinc 4 1, 3) := by decide +kernel
theorem c148_63 : qcd 148 63 = some (.goto (-58), 3) := by decide +kernel
theorem c148_66 : qcd 148 66 = some (.iload_n 3, 1) := by decide +kernel
theorem c148_67 : qcd 148 67 = some (.ireturn, 1) := by decide +kernel
theorem c149_0 : qcd 149 0 = some (.iconst 0, 1) := by decide +kernel
theorem c149_1 : qcd 149 1 = some (.istore_n 2, 1) := by decide +kernel
theorem c149_2 : qcd 149 2 = some (.iconst 0, 1) := by decide +kernel
theorem c149_3 : qcd 149 3 = some (.istore_n 3, 1) := by decide +kernel
theorem c149_4 : qcd 149 4 = some (.iload_n 3, 1) := by decide +kernel
theorem c149_5 : qcd 149 5 = some (.iconst 4, 1) := by decide +kernel
theorem c149_6 : qcd 149 6 = some (.if_icmp .ge 29, 3) := by decide +kernel
theorem c149_9 : qcd 149 9 = some (.iload_n 2, 1) := by decide +kernel
theorem c149_10 : qcd 149 10 = some (.bipush 8, 2) := by decide +kernel
theorem c149_12 : qcd 149 12 = some (.ishl, 1) := by decide +kernel
theorem c149_13 : qcd 149 13 = some (.aload_n 0, 1) := by decide +kernel
theorem c149_14 : qcd 149 14 = some (.getfield 7, 3) := by decide +kernel
theorem c149_17 : qcd 149 17 = some (.iconst 4, 1) := by decide +kernel
theorem c149_18 : qcd 149 18 = some (.iload_n 1, 1) := by decide +kernel
theorem c149_19 : qcd 149 19 = some (.imul, 1) := by decide +kernel
theorem c149_20 : qcd 149 20 = some (.iload_n 3, 1) := by decide +kernel
theorem c149_21 : qcd 149 21 = some (.iadd, 1) := by decide +kernel
theorem c149_22 : qcd 149 22 = some (.baload, 1) := by decide +kernel
theorem c149_23 : qcd 149 23 = some (.sipush 255, 3) := by decide +kernel
theorem c149_26 : qcd 149 26 = some (.iand, 1) := by decide +kernel
theorem c149_27 : qcd 149 27 = some (.ior, 1) := by decide +kernel
theorem c149_28 : qcd 149 28 = some (.istore_n 2, 1) := by decide +kernel
theorem c149_29 : qcd 149 29 = some (.iinc 3 1, 3) := by decide +kernel
theorem c149_32 : qcd 149 32 = some (.goto (-28), 3) := by decide +kernel
theorem c149_35 : qcd 149 35 = some (.iload_n 2, 1) := by decide +kernel
theorem c149_36 : qcd 149 36 = some (.ireturn, 1) := by decide +kernel
theorem c150_0 : qcd 150 0 = some (.aload_n 0, 1) := by decide +kernel
theorem c150_1 : qcd 150 1 = some (.getfield 309, 3) := by decide +kernel
theorem c150_4 : qcd 150 4 = some (.bipush 6, 2) := by decide +kernel
theorem c150_6 : qcd 150 6 = some (.if_icmp .ne 12, 3) := by decide +kernel
theorem c150_9 : qcd 150 9 = some (.aload_n 0, 1) := by decide +kernel
theorem c150_10 : qcd 150 10 = some (.iconst 5, 1) := by decide +kernel
theorem c150_11 : qcd 150 11 = some (.aload_n 0, 1) := by decide +kernel
theorem c150_12 : qcd 150 12 = some (.getfield 290, 3) := by decide +kernel
theorem c150_15 : qcd 150 15 = some (.invokevirtual 312, 3) := by decide +kernel
theorem c150_18 : qcd 150 18 = some (.aload_n 0, 1) := by decide +kernel
theorem c150_19 : qcd 150 19 = some (.dup, 1) := by decide +kernel
theorem c150_20 : qcd 150 20 = some (.getfield 309, 3) := by decide +kernel
theorem c150_23 : qcd 150 23 = some (.iconst 1, 1) := by decide +kernel
theorem c150_24 : qcd 150 24 = some (.iadd, 1) := by decide +kernel
theorem c150_25 : qcd 150 25 = some (.putfield 309, 3) := by decide +kernel
theorem c150_28 : qcd 150 28 = some (.aload_n 0, 1) := by decide +kernel
theorem c150_29 : qcd 150 29 = some (.aload_n 0, 1) := by decide +kernel
theorem c150_30 : qcd 150 30 = some (.invokevirtual 315, 3) := by decide +kernel
theorem c150_33 : qcd 150 33 = some (.invokevirtual 319, 3) := by decide +kernel
theorem c150_36 : qcd 150 36 = some (.return_, 1) := by decide +kernel
theorem c151_0 : qcd 151 0 = some (.aload_n 0, 1) := by decide +kernel
theorem c151_1 : qcd 151 1 = some (.iload_n 1, 1) := by decide +kernel
theorem c151_2 : qcd 151 2 = some (.invokevirtual 513, 3) := by decide +kernel
theorem c151_5 : qcd 151 5 = some (.ifCond .eq 11, 3) := by decide +kernel
theorem c151_8 : qcd 151 8 = some (.aload_n 0, 1) := by decide +kernel
theorem c151_9 : qcd 151 9 = some (.iload_n 2, 1) := by decide +kernel
theorem c151_10 : qcd 151 10 = some (.invokevirtual 513, 3) := by decide +kernel
theorem c151_13 : qcd 151 13 = some (.ifCond .ne 5, 3) := by decide +kernel
theorem c151_16 : qcd 151 16 = some (.iconst (-1), 1) := by decide +kernel
theorem c151_17 : qcd 151 17 = some (.ireturn, 1) := by decide +kernel
theorem c151_18 : qcd 151 18 = some (.aload_n 0, 1) := by decide +kernel
theorem c151_19 : qcd 151 19 = some (.invokevirtual 521, 3) := by decide +kernel
theorem c151_22 : qcd 151 22 = some (.ifCond .ne 5, 3) := by decide +kernel
theorem c151_25 : qcd 151 25 = some (.iconst 4, 1) := by decide +kernel
theorem c151_26 : qcd 151 26 = some (.ireturn, 1) := by decide +kernel
theorem c151_27 : qcd 151 27 = some (.aload_n 0, 1) := by decide +kernel
theorem c151_28 : qcd 151 28 = some (.getfield 164, 3) := by decide +kernel
theorem c151_31 : qcd 151 31 = some (.iload_n 1, 1) := by decide +kernel
theorem c151_32 : qcd 151 32 = some (.iaload, 1) := by decide +kernel
theorem c151_33 : qcd 151 33 = some (.istore_n 3, 1) := by decide +kernel
theorem c151_34 : qcd 151 34 = some (.aload_n 0, 1) := by decide +kernel
theorem c151_35 : qcd 151 35 = some (.getfield 164, 3) := by decide +kernel
theorem c151_38 : qcd 151 38 = some (.iload_n 2, 1) := by decide +kernel
theorem c151_39 : qcd 151 39 = some (.iaload, 1) := by decide +kernel
theorem c151_40 : qcd 151 40 = some (.istore 4, 2) := by decide +kernel
theorem c151_42 : qcd 151 42 = some (.aload_n 0, 1) := by decide +kernel
theorem c151_43 : qcd 151 43 = some (.getfield 167, 3) := by decide +kernel
theorem c151_46 : qcd 151 46 = some (.iload_n 1, 1) := by decide +kernel
theorem c151_47 : qcd 151 47 = some (.iaload, 1) := by decide +kernel
theorem c151_48 : qcd 151 48 = some (.aload_n 0, 1) := by decide +kernel
theorem c151_49 : qcd 151 49 = some (.getfield 167, 3) := by decide +kernel
theorem c151_52 : qcd 151 52 = some (.iload_n 2, 1) := by decide +kernel
theorem c151_53 : qcd 151 53 = some (.iaload, 1) := by decide +kernel
theorem c151_54 : qcd 151 54 = some (.isub, 1) := by decide +kernel
theorem c151_55 : qcd 151 55 = some (.istore 5, 2) := by decide +kernel
theorem c151_57 : qcd 151 57 = some (.iload 5, 2) := by decide +kernel
theorem c151_59 : qcd 151 59 = some (.aload_n 0, 1) := by decide +kernel
theorem c151_60 : qcd 151 60 = some (.getfield 176, 3) := by decide +kernel
theorem c151_63 : qcd 151 63 = some (.iconst 5, 1) := by decide +kernel
theorem c151_64 : qcd 151 64 = some (.iload_n 3, 1) := by decide +kernel
theorem c151_65 : qcd 151 65 = some (.imul, 1) := by decide +kernel
theorem c151_66 : qcd 151 66 = some (.iload 4, 2) := by decide +kernel
theorem c151_68 : qcd 151 68 = some (.iadd, 1) := by decide +kernel
theorem c151_69 : qcd 151 69 = some (.iaload, 1) := by decide +kernel
theorem c151_70 : qcd 151 70 = some (.isub, 1) := by decide +kernel
theorem c151_71 : qcd 151 71 = some (.istore 6, 2) := by decide +kernel
theorem c151_73 : qcd 151 73 = some (.iload 5, 2) := by decide +kernel
theorem c151_75 : qcd 151 75 = some (.aload_n 0, 1) := by decide +kernel
theorem c151_76 : qcd 151 76 = some (.getfield 176, 3) := by decide +kernel
theorem c151_79 : qcd 151 79 = some (.iconst 5, 1) := by decide +kernel
theorem c151_80 : qcd 151 80 = some (.iload 4, 2) := by decide +kernel
theorem c151_82 : qcd 151 82 = some (.imul, 1) := by decide +kernel
theorem c151_83 : qcd 151 83 = some (.iload_n 3, 1) := by decide +kernel
theorem c151_84 : qcd 151 84 = some (.iadd, 1) := by decide +kernel
theorem c151_85 : qcd 151 85 = some (.iaload, 1) := by decide +kernel
theorem c151_86 : qcd 151 86 = some (.iadd, 1) := by decide +kernel
theorem c151_87 : qcd 151 87 = some (.istore 7, 2) := by decide +kernel
theorem c151_89 : qcd 151 89 = some (.iload 7, 2) := by decide +kernel
theorem c151_91 : qcd 151 91 = some (.ifCond .ge 7, 3) := by decide +kernel
theorem c151_94 : qcd 151 94 = some (.iconst 0, 1) := by decide +kernel
theorem c151_95 : qcd 151 95 = some (.goto 27, 3) := by decide +kernel
theorem c151_98 : qcd 151 98 = some (.iload 6, 2) := by decide +kernel
theorem c151_100 : qcd 151 100 = some (.ifCond .le 7, 3) := by decide +kernel
theorem c151_103 : qcd 151 103 = some (.iconst 1, 1) := by decide +kernel
theorem c151_104 : qcd 151 104 = some (.goto 18, 3) := by decide +kernel
theorem c151_107 : qcd 151 107 = some (.iload 6, 2) := by decide +kernel
theorem c151_109 : qcd 151 109 = some (.ifCond .ne 12, 3) := by decide +kernel
theorem c151_112 : qcd 151 112 = some (.iload 7, 2) := by decide +kernel
theorem c151_114 : qcd 151 114 = some (.ifCond .ne 7, 3) := by decide +kernel
theorem c151_117 : qcd 151 117 = some (.iconst 2, 1) := by decide +kernel
theorem c151_118 : qcd 151 118 = some (.goto 4, 3) := by decide +kernel
theorem c151_121 : qcd 151 121 = some (.iconst 3, 1) := by decide +kernel
theorem c151_122 : qcd 151 122 = some (.ireturn, 1) := by decide +kernel
theorem c152_0 : qcd 152 0 = some (.aload_n 0, 1) := by decide +kernel
theorem c152_1 : qcd 152 1 = some (.invokevirtual 299, 3) := by decide +kernel
theorem c152_4 : qcd 152 4 = some (.ifCond .eq 28, 3) := by decide +kernel
theorem c152_7 : qcd 152 7 = some (.aload_n 0, 1) := by decide +kernel
theorem c152_8 : qcd 152 8 = some (.invokevirtual 315, 3) := by decide +kernel
theorem c152_11 : qcd 152 11 = some (.bipush 33, 2) := by decide +kernel
theorem c152_13 : qcd 152 13 = some (.if_icmp .eq 12, 3) := by decide +kernel
theorem c152_16 : qcd 152 16 = some (.aload_n 0, 1) := by decide +kernel
theorem c152_17 : qcd 152 17 = some (.invokevirtual 315, 3) := by decide +kernel
theorem c152_20 : qcd 152 20 = some (.bipush 40, 2) := by decide +kernel
theorem c152_22 : qcd 152 22 = some (.if_icmp .ne 10, 3) := by decide +kernel
theorem c152_25 : qcd 152 25 = some (.aload_n 0, 1) := by decide +kernel
theorem c152_26 : qcd 152 26 = some (.invokevirtual 344, 3) := by decide +kernel
theorem c152_29 : qcd 152 29 = some (.goto (-29), 3) := by decide +kernel
theorem c152_32 : qcd 152 32 = some (.iconst 1, 1) := by decide +kernel
theorem c152_33 : qcd 152 33 = some (.istore_n 1, 1) := by decide +kernel
theorem c152_34 : qcd 152 34 = some (.aload_n 0, 1) := by decide +kernel
theorem c152_35 : qcd 152 35 = some (.iconst 0, 1) := by decide +kernel
theorem c152_36 : qcd 152 36 = some (.putfield 357, 3) := by decide +kernel
theorem c152_39 : qcd 152 39 = some (.iload_n 1, 1) := by decide +kernel
theorem c152_40 : qcd 152 40 = some (.ifCond .eq 49, 3) := by decide +kernel
theorem c152_43 : qcd 152 43 = some (.aload_n 0, 1) := by decide +kernel
theorem c152_44 : qcd 152 44 = some (.invokevirtual 299, 3) := by decide +kernel
theorem c152_47 : qcd 152 47 = some (.ifCond .eq 42, 3) := by decide +kernel
theorem c152_50 : qcd 152 50 = some (.aload_n 0, 1) := by decide +kernel
theorem c152_51 : qcd 152 51 = some (.getfield 357, 3) := by decide +kernel
theorem c152_54 : qcd 152 54 = some (.ifCond .ne 7, 3) := by decide +kernel
theorem c152_57 : qcd 152 57 = some (.aload_n 0, 1) := by decide +kernel
theorem c152_58 : qcd 152 58 = some (.invokevirtual 364, 3) := by decide +kernel
theorem c152_61 : qcd 152 61 = some (.aload_n 0, 1) := by decide +kernel
theorem c152_62 : qcd 152 62 = some (.iconst 0, 1) := by decide +kernel
theorem c152_63 : qcd 152 63 = some (.putfield 357, 3) := by decide +kernel
theorem c152_66 : qcd 152 66 = some (.aload_n 0, 1) := by decide +kernel
theorem c152_67 : qcd 152 67 = some (.invokevirtual 299, 3) := by decide +kernel
theorem c152_70 : qcd 152 70 = some (.ifCond .eq 14, 3) := by decide +kernel
theorem c152_73 : qcd 152 73 = some (.aload_n 0, 1) := by decide +kernel
theorem c152_74 : qcd 152 74 = some (.invokevirtual 367, 3) := by decide +kernel
theorem c152_77 : qcd 152 77 = some (.ifCond .eq 7, 3) := by decide +kernel
theorem c152_80 : qcd 152 80 = some (.iconst 1, 1) := by decide +kernel
theorem c152_81 : qcd 152 81 = some (.goto 4, 3) := by decide +kernel
theorem c152_84 : qcd 152 84 = some (.iconst 0, 1) := by decide +kernel
theorem c152_85 : qcd 152 85 = some (.istore_n 1, 1) := by decide +kernel
theorem c152_86 : qcd 152 86 = some (.goto (-47), 3) := by decide +kernel
theorem c152_89 : qcd 152 89 = some (.aload_n 0, 1) := by decide +kernel
theorem c152_90 : qcd 152 90 = some (.invokevirtual 299, 3) := by decide +kernel
theorem c152_93 : qcd 152 93 = some (.ifCond .eq 7, 3) := by decide +kernel
theorem c152_96 : qcd 152 96 = some (.aload_n 0, 1) := by decide +kernel
theorem c152_97 : qcd 152 97 = some (.invokevirtual 370, 3) := by decide +kernel
theorem c152_100 : qcd 152 100 = some (.return_, 1) := by decide +kernel
theorem c153_0 : qcd 153 0 = some (.aload_n 0, 1) := by decide +kernel
theorem c153_1 : qcd 153 1 = some (.iload_n 1, 1) := by decide +kernel
theorem c153_2 : qcd 153 2 = some (.aload_n 0, 1) := by decide +kernel
theorem c153_3 : qcd 153 3 = some (.getfield 202, 3) := by decide +kernel
theorem c153_6 : qcd 153 6 = some (.if_icmp .ne 8, 3) := by decide +kernel
theorem c153_9 : qcd 153 9 = some (.ldc 230, 2) := by decide +kernel
theorem c153_11 : qcd 153 11 = some (.goto 7, 3) := by decide +kernel
theorem c153_14 : qcd 153 14 = some (.bipush 72, 2) := by decide +kernel
theorem c153_16 : qcd 153 16 = some (.iload_n 1, 1) := by decide +kernel
theorem c153_17 : qcd 153 17 = some (.imul, 1) := by decide +kernel
theorem c153_18 : qcd 153 18 = some (.ldc_w 471, 3) := by decide +kernel
theorem c153_21 : qcd 153 21 = some (.invokevirtual 444, 3) := by decide +kernel
theorem c153_24 : qcd 153 24 = some (.aload_n 0, 1) := by decide +kernel
theorem c153_25 : qcd 153 25 = some (.getfield 14, 3) := by decide +kernel
theorem c153_28 : qcd 153 28 = some (.ldc_w 472, 3) := by decide +kernel
theorem c153_31 : qcd 153 31 = some (.aload_n 0, 1) := by decide +kernel
theorem c153_32 : qcd 153 32 = some (.getfield 14, 3) := by decide +kernel
theorem c153_35 : qcd 153 35 = some (.ldc 185, 2) := by decide +kernel
theorem c153_37 : qcd 153 37 = some (.iaload, 1) := by decide +kernel
theorem c153_38 : qcd 153 38 = some (.iastore, 1) := by decide +kernel
theorem c153_39 : qcd 153 39 = some (.iconst 0, 1) := by decide +kernel
theorem c153_40 : qcd 153 40 = some (.istore_n 3, 1) := by decide +kernel
theorem c153_41 : qcd 153 41 = some (.iload_n 3, 1) := by decide +kernel
theorem c153_42 : qcd 153 42 = some (.aload_n 0, 1) := by decide +kernel
theorem c153_43 : qcd 153 43 = some (.getfield 186, 3) := by decide +kernel
theorem c153_46 : qcd 153 46 = some (.if_icmp .ge 41, 3) := by decide +kernel
theorem c153_49 : qcd 153 49 = some (.aload_n 0, 1) := by decide +kernel
theorem c153_50 : qcd 153 50 = some (.getfield 14, 3) := by decide +kernel
theorem c153_53 : qcd 153 53 = some (.ldc_w 484, 3) := by decide +kernel
theorem c153_56 : qcd 153 56 = some (.iload_n 3, 1) := by decide +kernel
theorem c153_57 : qcd 153 57 = some (.iadd, 1) := by decide +kernel
theorem c153_58 : qcd 153 58 = some (.iload_n 2, 1) := by decide +kernel
theorem c153_59 : qcd 153 59 = some (.iload_n 3, 1) := by decide +kernel
theorem c153_60 : qcd 153 60 = some (.invokestatic 248, 3) := by decide +kernel
theorem c153_63 : qcd 153 63 = some (.ifCond .eq 7, 3) := by decide +kernel
theorem c153_66 : qcd 153 66 = some (.iconst 1, 1) := by decide +kernel
theorem c153_67 : qcd 153 67 = some (.goto 13, 3) := by decide +kernel
theorem c153_70 : qcd 153 70 = some (.aload_n 0, 1) := by decide +kernel
theorem c153_71 : qcd 153 71 = some (.getfield 14, 3) := by decide +kernel
theorem c153_74 : qcd 153 74 = some (.ldc_w 484, 3) := by decide +kernel
theorem c153_77 : qcd 153 77 = some (.iload_n 3, 1) := by decide +kernel
theorem c153_78 : qcd 153 78 = some (.iadd, 1) := by decide +kernel
theorem c153_79 : qcd 153 79 = some (.iaload, 1) := by decide +kernel
theorem c153_80 : qcd 153 80 = some (.iastore, 1) := by decide +kernel
theorem c153_81 : qcd 153 81 = some (.iinc 3 1, 3) := by decide +kernel
theorem c153_84 : qcd 153 84 = some (.goto (-43), 3) := by decide +kernel
theorem c153_87 : qcd 153 87 = some (.return_, 1) := by decide +kernel
theorem c154_0 : qcd 154 0 = some (.bipush 24, 2) := by decide +kernel
theorem c154_2 : qcd 154 2 = some (.istore_n 2, 1) := by decide +kernel
theorem c154_3 : qcd 154 3 = some (.iload_n 2, 1) := by decide +kernel
theorem c154_4 : qcd 154 4 = some (.ifCond .lt 32, 3) := by decide +kernel
theorem c154_7 : qcd 154 7 = some (.aload_n 0, 1) := by decide +kernel
theorem c154_8 : qcd 154 8 = some (.getfield 7, 3) := by decide +kernel
theorem c154_11 : qcd 154 11 = some (.aload_n 0, 1) := by decide +kernel
theorem c154_12 : qcd 154 12 = some (.getfield 283, 3) := by decide +kernel
theorem c154_15 : qcd 154 15 = some (.iload_n 1, 1) := by decide +kernel
theorem c154_16 : qcd 154 16 = some (.iload_n 2, 1) := by decide +kernel
theorem c154_17 : qcd 154 17 = some (.ishr, 1) := by decide +kernel
theorem c154_18 : qcd 154 18 = some (.i2b, 1) := by decide +kernel
theorem c154_19 : qcd 154 19 = some (.bastore, 1) := by decide +kernel
theorem c154_20 : qcd 154 20 = some (.aload_n 0, 1) := by decide +kernel
theorem c154_21 : qcd 154 21 = some (.dup, 1) := by decide +kernel
theorem c154_22 : qcd 154 22 = some (.getfield 283, 3) := by decide +kernel
theorem c154_25 : qcd 154 25 = some (.iconst 1, 1) := by decide +kernel
theorem c154_26 : qcd 154 26 = some (.iadd, 1) := by decide +kernel
theorem c154_27 : qcd 154 27 = some (.putfield 283, 3) := by decide +kernel
theorem c154_30 : qcd 154 30 = some (.iinc 2 (-8), 3) := by decide +kernel
theorem c154_33 : qcd 154 33 = some (.goto (-30), 3) := by decide +kernel
theorem c154_36 : qcd 154 36 = some (.return_, 1) := by decide +kernel
theorem c155_0 : qcd 155 0 = some (.aload_n 0, 1) := by decide +kernel
theorem c155_1 : qcd 155 1 = some (.getfield 116, 3) := by decide +kernel
theorem c155_4 : qcd 155 4 = some (.aload_n 0, 1) := by decide +kernel
theorem c155_5 : qcd 155 5 = some (.getfield 306, 3) := by decide +kernel
theorem c155_8 : qcd 155 8 = some (.iload_n 1, 1) := by decide +kernel
theorem c155_9 : qcd 155 9 = some (.iastore, 1) := by decide +kernel
theorem c155_10 : qcd 155 10 = some (.aload_n 0, 1) := by decide +kernel
theorem c155_11 : qcd 155 11 = some (.dup, 1) := by decide +kernel
theorem c155_12 : qcd 155 12 = some (.getfield 306, 3) := by decide +kernel
theorem c155_15 : qcd 155 15 = some (.iconst 1, 1) := by decide +kernel
theorem c155_16 : qcd 155 16 = some (.iadd, 1) := by decide +kernel
theorem c155_17 : qcd 155 17 = some (.putfield 306, 3) := by decide +kernel
theorem c155_20 : qcd 155 20 = some (.aload_n 0, 1) := by decide +kernel
theorem c155_21 : qcd 155 21 = some (.dup, 1) := by decide +kernel
theorem c155_22 : qcd 155 22 = some (.getfield 290, 3) := by decide +kernel
theorem c155_25 : qcd 155 25 = some (.iconst 1, 1) := by decide +kernel
theorem c155_26 : qcd 155 26 = some (.iadd, 1) := by decide +kernel
theorem c155_27 : qcd 155 27 = some (.putfield 290, 3) := by decide +kernel
theorem c155_30 : qcd 155 30 = some (.return_, 1) := by decide +kernel
theorem c156_0 : qcd 156 0 = some (.aload_n 0, 1) := by decide +kernel
theorem c156_1 : qcd 156 1 = some (.getfield 290, 3) := by decide +kernel
theorem c156_4 : qcd 156 4 = some (.istore_n 1, 1) := by decide +kernel
theorem c156_5 : qcd 156 5 = some (.iconst 0, 1) := by decide +kernel
theorem c156_6 : qcd 156 6 = some (.istore_n 2, 1) := by decide +kernel
theorem c156_7 : qcd 156 7 = some (.aload_n 0, 1) := by decide +kernel
theorem c156_8 : qcd 156 8 = some (.invokevirtual 299, 3) := by decide +kernel
theorem c156_11 : qcd 156 11 = some (.ifCond .eq 56, 3) := by decide +kernel
theorem c156_14 : qcd 156 14 = some (.aload_n 0, 1) := by decide +kernel
theorem c156_15 : qcd 156 15 = some (.invokevirtual 326, 3) := by decide +kernel
theorem c156_18 : qcd 156 18 = some (.ifCond .eq 49, 3) := by decide +kernel
theorem c156_21 : qcd 156 21 = some (.aload_n 0, 1) := by decide +kernel
theorem c156_22 : qcd 156 22 = some (.getfield 290, 3) := by decide +kernel
theorem c156_25 : qcd 156 25 = some (.iload_n 1, 1) := by decide +kernel
theorem c156_26 : qcd 156 26 = some (.bipush 6, 2) := by decide +kernel
theorem c156_28 : qcd 156 28 = some (.iadd, 1) := by decide +kernel
theorem c156_29 : qcd 156 29 = some (.if_icmp .ne 12, 3) := by decide +kernel
theorem c156_32 : qcd 156 32 = some (.aload_n 0, 1) := by decide +kernel
theorem c156_33 : qcd 156 33 = some (.iconst 2, 1) := by decide +kernel
theorem c156_34 : qcd 156 34 = some (.aload_n 0, 1) := by decide +kernel
theorem c156_35 : qcd 156 35 = some (.getfield 290, 3) := by decide +kernel
theorem c156_38 : qcd 156 38 = some (.invokevirtual 312, 3) := by decide +kernel
theorem c156_41 : qcd 156 41 = some (.bipush 10, 2) := by decide +kernel
theorem c156_43 : qcd 156 43 = some (.iload_n 2, 1) := by decide +kernel
theorem c156_44 : qcd 156 44 = some (.imul, 1) := by decide +kernel
theorem c156_45 : qcd 156 45 = some (.aload_n 0, 1) := by decide +kernel
theorem c156_46 : qcd 156 46 = some (.invokevirtual 315, 3) := by decide +kernel
theorem c156_49 : qcd 156 49 = some (.iadd, 1) := by decide +kernel
theorem c156_50 : qcd 156 50 = some (.bipush 48, 2) := by decide +kernel
theorem c156_52 : qcd 156 52 = some (.isub, 1) := by decide +kernel
theorem c156_53 : qcd 156 53 = some (.istore_n 2, 1) := by decide +kernel
theorem c156_54 : qcd 156 54 = some (.aload_n 0, 1) := by decide +kernel
theorem c156_55 : qcd 156 55 = some (.dup, 1) := by decide +kernel
theorem c156_56 : qcd 156 56 = some (.getfield 290, 3) := by decide +kernel
theorem c156_59 : qcd 156 59 = some (.iconst 1, 1) := by decide +kernel
theorem c156_60 : qcd 156 60 = some (.iadd, 1) := by decide +kernel
theorem c156_61 : qcd 156 61 = some (.putfield 290, 3) := by decide +kernel
theorem c156_64 : qcd 156 64 = some (.goto (-57), 3) := by decide +kernel
theorem c156_67 : qcd 156 67 = some (.iload_n 2, 1) := by decide +kernel
theorem c156_68 : qcd 156 68 = some (.ireturn, 1) := by decide +kernel
theorem c157_0 : qcd 157 0 = some (.aload_n 0, 1) := by decide +kernel
theorem c157_1 : qcd 157 1 = some (.getfield 505, 3) := by decide +kernel
theorem c157_4 : qcd 157 4 = some (.bipush 40, 2) := by decide +kernel
theorem c157_6 : qcd 157 6 = some (.if_icmp .eq 22, 3) := by decide +kernel
theorem c157_9 : qcd 157 9 = some (.iload_n 1, 1) := by decide +kernel
theorem c157_10 : qcd 157 10 = some (.invokestatic 205, 3) := by decide +kernel
theorem c157_13 : qcd 157 13 = some (.ifCond .eq 15, 3) := by decide +kernel
theorem c157_16 : qcd 157 16 = some (.iload_n 2, 1) := by decide +kernel
theorem c157_17 : qcd 157 17 = some (.i2l, 1) := by decide +kernel
theorem c157_18 : qcd 157 18 = some (.lconst 0, 1) := by decide +kernel
theorem c157_19 : qcd 157 19 = some (.ldc2_w 508, 3) := by decide +kernel
theorem c157_22 : qcd 157 22 = some (.invokestatic 190, 3) := by decide +kernel
theorem c157_25 : qcd 157 25 = some (.ifCond .ne 5, 3) := by decide +kernel
theorem c157_28 : qcd 157 28 = some (.iconst (-1), 1) := by decide +kernel
theorem c157_29 : qcd 157 29 = some (.ireturn, 1) := by decide +kernel
theorem c157_30 : qcd 157 30 = some (.aload_n 0, 1) := by decide +kernel
theorem c157_31 : qcd 157 31 = some (.getfield 164, 3) := by decide +kernel
theorem c157_34 : qcd 157 34 = some (.aload_n 0, 1) := by decide +kernel
theorem c157_35 : qcd 157 35 = some (.getfield 505, 3) := by decide +kernel
theorem c157_38 : qcd 157 38 = some (.iload_n 1, 1) := by decide +kernel
theorem c157_39 : qcd 157 39 = some (.iastore, 1) := by decide +kernel
theorem c157_40 : qcd 157 40 = some (.aload_n 0, 1) := by decide +kernel
theorem c157_41 : qcd 157 41 = some (.getfield 167, 3) := by decide +kernel
theorem c157_44 : qcd 157 44 = some (.aload_n 0, 1) := by decide +kernel
theorem c157_45 : qcd 157 45 = some (.getfield 505, 3) := by decide +kernel
theorem c157_48 : qcd 157 48 = some (.iload_n 2, 1) := by decide +kernel
theorem c157_49 : qcd 157 49 = some (.iastore, 1) := by decide +kernel
theorem c157_50 : qcd 157 50 = some (.aload_n 0, 1) := by decide +kernel
theorem c157_51 : qcd 157 51 = some (.dup, 1) := by decide +kernel
theorem c157_52 : qcd 157 52 = some (.getfield 505, 3) := by decide +kernel
theorem c157_55 : qcd 157 55 = some (.iconst 1, 1) := by decide +kernel
theorem c157_56 : qcd 157 56 = some (.iadd, 1) := by decide +kernel
theorem c157_57 : qcd 157 57 = some (.putfield 505, 3) := by decide +kernel
theorem c157_60 : qcd 157 60 = some (.aload_n 0, 1) := by decide +kernel
theorem c157_61 : qcd 157 61 = some (.getfield 505, 3) := by decide +kernel
theorem c157_64 : qcd 157 64 = some (.iconst 1, 1) := by decide +kernel
theorem c157_65 : qcd 157 65 = some (.isub, 1) := by decide +kernel
theorem c157_66 : qcd 157 66 = some (.ireturn, 1) := by decide +kernel
theorem c158_0 : qcd 158 0 = some (.iload_n 1, 1) := by decide +kernel
theorem c158_1 : qcd 158 1 = some (.i2l, 1) := by decide +kernel
theorem c158_2 : qcd 158 2 = some (.lconst 1, 1) := by decide +kernel
theorem c158_3 : qcd 158 3 = some (.ldc2_w 388, 3) := by decide +kernel
theorem c158_6 : qcd 158 6 = some (.invokestatic 190, 3) := by decide +kernel
theorem c158_9 : qcd 158 9 = some (.ifCond .eq 11, 3) := by decide +kernel
theorem c158_12 : qcd 158 12 = some (.iload_n 1, 1) := by decide +kernel
theorem c158_13 : qcd 158 13 = some (.aload_n 0, 1) := by decide +kernel
theorem c158_14 : qcd 158 14 = some (.getfield 283, 3) := by decide +kernel
theorem c158_17 : qcd 158 17 = some (.if_icmp .le 5, 3) := by decide +kernel
theorem c158_20 : qcd 158 20 = some (.iconst (-1), 1) := by decide +kernel
theorem c158_21 : qcd 158 21 = some (.ireturn, 1) := by decide +kernel
theorem c158_22 : qcd 158 22 = some (.aload_n 0, 1) := by decide +kernel
theorem c158_23 : qcd 158 23 = some (.iconst 0, 1) := by decide +kernel
theorem c158_24 : qcd 158 24 = some (.putfield 283, 3) := by decide +kernel
theorem c158_27 : qcd 158 27 = some (.aload_n 0, 1) := by decide +kernel
theorem c158_28 : qcd 158 28 = some (.iconst 0, 1) := by decide +kernel
theorem c158_29 : qcd 158 29 = some (.putfield 290, 3) := by decide +kernel
theorem c158_32 : qcd 158 32 = some (.aload_n 0, 1) := by decide +kernel
theorem c158_33 : qcd 158 33 = some (.iload_n 1, 1) := by decide +kernel
theorem c158_34 : qcd 158 34 = some (.putfield 293, 3) := by decide +kernel
theorem c158_37 : qcd 158 37 = some (.aload_n 0, 1) := by decide +kernel
theorem c158_38 : qcd 158 38 = some (.iconst 0, 1) := by decide +kernel
theorem c158_39 : qcd 158 39 = some (.putfield 296, 3) := by decide +kernel
theorem c158_42 : qcd 158 42 = some (.aload_n 0, 1) := by decide +kernel
theorem c158_43 : qcd 158 43 = some (.iconst 0, 1) := by decide +kernel
theorem c158_44 : qcd 158 44 = some (.putfield 329, 3) := by decide +kernel
theorem c158_47 : qcd 158 47 = some (.aload_n 0, 1) := by decide +kernel
theorem c158_48 : qcd 158 48 = some (.iconst 0, 1) := by decide +kernel
theorem c158_49 : qcd 158 49 = some (.putfield 303, 3) := by decide +kernel
theorem c158_52 : qcd 158 52 = some (.iconst 1, 1) := by decide +kernel
theorem c158_53 : qcd 158 53 = some (.istore_n 2, 1) := by decide +kernel
theorem c158_54 : qcd 158 54 = some (.iload_n 2, 1) := by decide +kernel
theorem c158_55 : qcd 158 55 = some (.ifCond .eq 73, 3) := by decide +kernel
theorem c158_58 : qcd 158 58 = some (.aload_n 0, 1) := by decide +kernel
theorem c158_59 : qcd 158 59 = some (.invokevirtual 299, 3) := by decide +kernel
theorem c158_62 : qcd 158 62 = some (.ifCond .eq 66, 3) := by decide +kernel
theorem c158_65 : qcd 158 65 = some (.aload_n 0, 1) := by decide +kernel
theorem c158_66 : qcd 158 66 = some (.invokevirtual 390, 3) := by decide +kernel
theorem c158_69 : qcd 158 69 = some (.aload_n 0, 1) := by decide +kernel
theorem c158_70 : qcd 158 70 = some (.invokevirtual 299, 3) := by decide +kernel
theorem c158_73 : qcd 158 73 = some (.ifCond .eq 18, 3) := by decide +kernel
theorem c158_76 : qcd 158 76 = some (.aload_n 0, 1) := by decide +kernel
theorem c158_77 : qcd 158 77 = some (.getfield 290, 3) := by decide +kernel
theorem c158_80 : qcd 158 80 = some (.aload_n 0, 1) := by decide +kernel
theorem c158_81 : qcd 158 81 = some (.getfield 293, 3) := by decide +kernel
theorem c158_84 : qcd 158 84 = some (.if_icmp .ge 7, 3) := by decide +kernel
theorem c158_87 : qcd 158 87 = some (.iconst 1, 1) := by decide +kernel
theorem c158_88 : qcd 158 88 = some (.goto 4, 3) := by decide +kernel
theorem c158_91 : qcd 158 91 = some (.iconst 0, 1) := by decide +kernel
theorem c158_92 : qcd 158 92 = some (.istore_n 2, 1) := by decide +kernel
theorem c158_93 : qcd 158 93 = some (.iload_n 2, 1) := by decide +kernel
theorem c158_94 : qcd 158 94 = some (.ifCond .eq (-40), 3) := by decide +kernel
theorem c158_97 : qcd 158 97 = some (.aload_n 0, 1) := by decide +kernel
theorem c158_98 : qcd 158 98 = some (.invokevirtual 315, 3) := by decide +kernel
theorem c158_101 : qcd 158 101 = some (.bipush 59, 2) := by decide +kernel
theorem c158_103 : qcd 158 103 = some (.if_icmp .eq 12, 3) := by decide +kernel
theorem c158_106 : qcd 158 106 = some (.aload_n 0, 1) := by decide +kernel
theorem c158_107 : qcd 158 107 = some (.iconst 1, 1) := by decide +kernel
theorem c158_108 : qcd 158 108 = some (.aload_n 0, 1) := by decide +kernel
theorem c158_109 : qcd 158 109 = some (.getfield 290, 3) := by decide +kernel
theorem c158_112 : qcd 158 112 = some (.invokevirtual 312, 3) := by decide +kernel
theorem c158_115 : qcd 158 115 = some (.aload_n 0, 1) := by decide +kernel
theorem c158_116 : qcd 158 116 = some (.dup, 1) := by decide +kernel
theorem c158_117 : qcd 158 117 = some (.getfield 290, 3) := by decide +kernel
theorem c158_120 : qcd 158 120 = some (.iconst 1, 1) := by decide +kernel
theorem c158_121 : qcd 158 121 = some (.iadd, 1) := by decide +kernel
theorem c158_122 : qcd 158 122 = some (.putfield 290, 3) := by decide +kernel
theorem c158_125 : qcd 158 125 = some (.goto (-71), 3) := by decide +kernel
theorem c158_128 : qcd 158 128 = some (.aload_n 0, 1) := by decide +kernel
theorem c158_129 : qcd 158 129 = some (.getfield 296, 3) := by decide +kernel
theorem c158_132 : qcd 158 132 = some (.ifCond .ge 8, 3) := by decide +kernel
theorem c158_135 : qcd 158 135 = some (.aload_n 0, 1) := by decide +kernel
theorem c158_136 : qcd 158 136 = some (.getfield 296, 3) := by decide +kernel
theorem c158_139 : qcd 158 139 = some (.ireturn, 1) := by decide +kernel
theorem c158_140 : qcd 158 140 = some (.iconst 0, 1) := by decide +kernel
theorem c158_141 : qcd 158 141 = some (.istore_n 3, 1) := by decide +kernel
theorem c158_142 : qcd 158 142 = some (.iload_n 3, 1) := by decide +kernel
theorem c158_143 : qcd 158 143 = some (.aload_n 0, 1) := by decide +kernel
theorem c158_144 : qcd 158 144 = some (.getfield 329, 3) := by decide +kernel
theorem c158_147 : qcd 158 147 = some (.if_icmp .ge 45, 3) := by decide +kernel
theorem c158_150 : qcd 158 150 = some (.aload_n 0, 1) := by decide +kernel
theorem c158_151 : qcd 158 151 = some (.getfield 86, 3) := by decide +kernel
theorem c158_154 : qcd 158 154 = some (.iload_n 3, 1) := by decide +kernel
theorem c158_155 : qcd 158 155 = some (.aload_n 0, 1) := by decide +kernel
theorem c158_156 : qcd 158 156 = some (.getfield 101, 3) := by decide +kernel
theorem c158_159 : qcd 158 159 = some (.iload_n 3, 1) := by decide +kernel
theorem c158_160 : qcd 158 160 = some (.iaload, 1) := by decide +kernel
theorem c158_161 : qcd 158 161 = some (.iastore, 1) := by decide +kernel
theorem c158_162 : qcd 158 162 = some (.aload_n 0, 1) := by decide +kernel
theorem c158_163 : qcd 158 163 = some (.getfield 89, 3) := by decide +kernel
theorem c158_166 : qcd 158 166 = some (.iload_n 3, 1) := by decide +kernel
theorem c158_167 : qcd 158 167 = some (.aload_n 0, 1) := by decide +kernel
theorem c158_168 : qcd 158 168 = some (.getfield 104, 3) := by decide +kernel
theorem c158_171 : qcd 158 171 = some (.iload_n 3, 1) := by decide +kernel
theorem c158_172 : qcd 158 172 = some (.iaload, 1) := by decide +kernel
theorem c158_173 : qcd 158 173 = some (.iastore, 1) := by decide +kernel
theorem c158_174 : qcd 158 174 = some (.aload_n 0, 1) := by decide +kernel
theorem c158_175 : qcd 158 175 = some (.getfield 92, 3) := by decide +kernel
theorem c158_178 : qcd 158 178 = some (.iload_n 3, 1) := by decide +kernel
theorem c158_179 : qcd 158 179 = some (.aload_n 0, 1) := by decide +kernel
theorem c158_180 : qcd 158 180 = some (.getfield 107, 3) := by decide +kernel
theorem c158_183 : qcd 158 183 = some (.iload_n 3, 1) := by decide +kernel
theorem c158_184 : qcd 158 184 = some (.iaload, 1) := by decide +kernel
theorem c158_185 : qcd 158 185 = some (.iastore, 1) := by decide +kernel
theorem c158_186 : qcd 158 186 = some (.iinc 3 1, 3) := by decide +kernel
theorem c158_189 : qcd 158 189 = some (.goto (-47), 3) := by decide +kernel
theorem c158_192 : qcd 158 192 = some (.iconst 0, 1) := by decide +kernel
theorem c158_193 : qcd 158 193 = some (.istore_n 3, 1) := by decide +kernel
theorem c158_194 : qcd 158 194 = some (.iload_n 3, 1) := by decide +kernel
theorem c158_195 : qcd 158 195 = some (.aload_n 0, 1) := by decide +kernel
theorem c158_196 : qcd 158 196 = some (.getfield 303, 3) := by decide +kernel
theorem c158_199 : qcd 158 199 = some (.if_icmp .ge 33, 3) := by decide +kernel
theorem c158_202 : qcd 158 202 = some (.aload_n 0, 1) := by decide +kernel
theorem c158_203 : qcd 158 203 = some (.getfield 95, 3) := by decide +kernel
theorem c158_206 : qcd 158 206 = some (.iload_n 3, 1) := by decide +kernel
theorem c158_207 : qcd 158 207 = some (.aload_n 0, 1) := by decide +kernel
theorem c158_208 : qcd 158 208 = some (.getfield 110, 3) := by decide +kernel
theorem c158_211 : qcd 158 211 = some (.iload_n 3, 1) := by decide +kernel
theorem c158_212 : qcd 158 212 = some (.iaload, 1) := by decide +kernel
theorem c158_213 : qcd 158 213 = some (.iastore, 1) := by decide +kernel
theorem c158_214 : qcd 158 214 = some (.aload_n 0, 1) := by decide +kernel
theorem c158_215 : qcd 158 215 = some (.getfield 98, 3) := by decide +kernel
theorem c158_218 : qcd 158 218 = some (.iload_n 3, 1) := by decide +kernel
theorem c158_219 : qcd 158 219 = some (.aload_n 0, 1) := by decide +kernel
theorem c158_220 : qcd 158 220 = some (.getfield 113, 3) := by decide +kernel
theorem c158_223 : qcd 158 223 = some (.iload_n 3, 1) := by decide +kernel
theorem c158_224 : qcd 158 224 = some (.iaload, 1) := by decide +kernel
theorem c158_225 : qcd 158 225 = some (.iastore, 1) := by decide +kernel
theorem c158_226 : qcd 158 226 = some (.iinc 3 1, 3) := by decide +kernel
theorem c158_229 : qcd 158 229 = some (.goto (-35), 3) := by decide +kernel
theorem c158_232 : qcd 158 232 = some (.aload_n 0, 1) := by decide +kernel
theorem c158_233 : qcd 158 233 = some (.aload_n 0, 1) := by decide +kernel
theorem c158_234 : qcd 158 234 = some (.getfield 329, 3) := by decide +kernel
theorem c158_237 : qcd 158 237 = some (.putfield 393, 3) := by decide +kernel
theorem c158_240 : qcd 158 240 = some (.aload_n 0, 1) := by decide +kernel
theorem c158_241 : qcd 158 241 = some (.getfield 329, 3) := by decide +kernel
theorem c158_244 : qcd 158 244 = some (.ireturn, 1) := by decide +kernel
theorem c159_0 : qcd 159 0 = some (.iload_n 2, 1) := by decide +kernel
theorem c159_1 : qcd 159 1 = some (.ifCond .eq 7, 3) := by decide +kernel
theorem c159_4 : qcd 159 4 = some (.iconst 1, 1) := by decide +kernel
theorem c159_5 : qcd 159 5 = some (.goto 4, 3) := by decide +kernel
theorem c159_8 : qcd 159 8 = some (.iconst 0, 1) := by decide +kernel
theorem c159_9 : qcd 159 9 = some (.istore_n 3, 1) := by decide +kernel
theorem c159_10 : qcd 159 10 = some (.aload_n 0, 1) := by decide +kernel
theorem c159_11 : qcd 159 11 = some (.iload_n 1, 1) := by decide +kernel
theorem c159_12 : qcd 159 12 = some (.invokevirtual 231, 3) := by decide +kernel
theorem c159_15 : qcd 159 15 = some (.ifCond .eq 16, 3) := by decide +kernel
theorem c159_18 : qcd 159 18 = some (.aload_n 0, 1) := by decide +kernel
theorem c159_19 : qcd 159 19 = some (.getfield 14, 3) := by decide +kernel
theorem c159_22 : qcd 159 22 = some (.ldc 223, 2) := by decide +kernel
theorem c159_24 : qcd 159 24 = some (.iload_n 1, 1) := by decide +kernel
theorem c159_25 : qcd 159 25 = some (.iadd, 1) := by decide +kernel
theorem c159_26 : qcd 159 26 = some (.iaload, 1) := by decide +kernel
theorem c159_27 : qcd 159 27 = some (.iload_n 3, 1) := by decide +kernel
theorem c159_28 : qcd 159 28 = some (.if_icmp .ne 5, 3) := by decide +kernel
theorem c159_31 : qcd 159 31 = some (.iconst 0, 1) := by decide +kernel
theorem c159_32 : qcd 159 32 = some (.ireturn, 1) := by decide +kernel
theorem c159_33 : qcd 159 33 = some (.aload_n 0, 1) := by decide +kernel
theorem c159_34 : qcd 159 34 = some (.getfield 14, 3) := by decide +kernel
theorem c159_37 : qcd 159 37 = some (.ldc 223, 2) := by decide +kernel
theorem c159_39 : qcd 159 39 = some (.iload_n 1, 1) := by decide +kernel
theorem c159_40 : qcd 159 40 = some (.iadd, 1) := by decide +kernel
theorem c159_41 : qcd 159 41 = some (.iload_n 3, 1) := by decide +kernel
theorem c159_42 : qcd 159 42 = some (.iastore, 1) := by decide +kernel
theorem c159_43 : qcd 159 43 = some (.iconst 1, 1) := by decide +kernel
theorem c159_44 : qcd 159 44 = some (.ireturn, 1) := by decide +kernel
theorem c160_0 : qcd 160 0 = some (.aload_n 0, 1) := by decide +kernel
theorem c160_1 : qcd 160 1 = some (.invokevirtual 315, 3) := by decide +kernel
theorem c160_4 : qcd 160 4 = some (.i2l, 1) := by decide +kernel
theorem c160_5 : qcd 160 5 = some (.ldc2_w 322, 3) := by decide +kernel
theorem c160_8 : qcd 160 8 = some (.ldc2_w 324, 3) := by decide +kernel
theorem c160_11 : qcd 160 11 = some (.invokestatic 190, 3) := by decide +kernel
theorem c160_14 : qcd 160 14 = some (.ireturn, 1) := by decide +kernel
theorem c161_0 : qcd 161 0 = some (.iload_n 2, 1) := by decide +kernel
theorem c161_1 : qcd 161 1 = some (.ifCond .eq 7, 3) := by decide +kernel
theorem c161_4 : qcd 161 4 = some (.iconst 1, 1) := by decide +kernel
theorem c161_5 : qcd 161 5 = some (.goto 4, 3) := by decide +kernel
theorem c161_8 : qcd 161 8 = some (.iconst 0, 1) := by decide +kernel
theorem c161_9 : qcd 161 9 = some (.istore_n 3, 1) := by decide +kernel
theorem c161_10 : qcd 161 10 = some (.aload_n 0, 1) := by decide +kernel
theorem c161_11 : qcd 161 11 = some (.iload_n 1, 1) := by decide +kernel
theorem c161_12 : qcd 161 12 = some (.invokevirtual 214, 3) := by decide +kernel
theorem c161_15 : qcd 161 15 = some (.ifCond .eq 16, 3) := by decide +kernel
theorem c161_18 : qcd 161 18 = some (.aload_n 0, 1) := by decide +kernel
theorem c161_19 : qcd 161 19 = some (.getfield 14, 3) := by decide +kernel
theorem c161_22 : qcd 161 22 = some (.ldc 234, 2) := by decide +kernel
theorem c161_24 : qcd 161 24 = some (.iload_n 1, 1) := by decide +kernel
theorem c161_25 : qcd 161 25 = some (.iadd, 1) := by decide +kernel
theorem c161_26 : qcd 161 26 = some (.iaload, 1) := by decide +kernel
theorem c161_27 : qcd 161 27 = some (.iload_n 3, 1) := by decide +kernel
theorem c161_28 : qcd 161 28 = some (.if_icmp .ne 5, 3) := by decide +kernel
theorem c161_31 : qcd 161 31 = some (.iconst 0, 1) := by decide +kernel
theorem c161_32 : qcd 161 32 = some (.ireturn, 1) := by decide +kernel
theorem c161_33 : qcd 161 33 = some (.aload_n 0, 1) := by decide +kernel
theorem c161_34 : qcd 161 34 = some (.getfield 14, 3) := by decide +kernel
theorem c161_37 : qcd 161 37 = some (.ldc 234, 2) := by decide +kernel
theorem c161_39 : qcd 161 39 = some (.iload_n 1, 1) := by decide +kernel
theorem c161_40 : qcd 161 40 = some (.iadd, 1) := by decide +kernel
theorem c161_41 : qcd 161 41 = some (.iload_n 3, 1) := by decide +kernel
theorem c161_42 : qcd 161 42 = some (.iastore, 1) := by decide +kernel
theorem c161_43 : qcd 161 43 = some (.iconst 1, 1) := by decide +kernel
theorem c161_44 : qcd 161 44 = some (.ireturn, 1) := by decide +kernel
theorem c162_0 : qcd 162 0 = some (.aload_n 0, 1) := by decide +kernel
theorem c162_1 : qcd 162 1 = some (.aload_n 0, 1) := by decide +kernel
theorem c162_2 : qcd 162 2 = some (.getfield 202, 3) := by decide +kernel
theorem c162_5 : qcd 162 5 = some (.iconst 0, 1) := by decide +kernel
theorem c162_6 : qcd 162 6 = some (.invokevirtual 485, 3) := by decide +kernel
theorem c162_9 : qcd 162 9 = some (.iconst 0, 1) := by decide +kernel
theorem c162_10 : qcd 162 10 = some (.istore_n 3, 1) := by decide +kernel
theorem c162_11 : qcd 162 11 = some (.iload_n 3, 1) := by decide +kernel
theorem c162_12 : qcd 162 12 = some (.aload_n 0, 1) := by decide +kernel
theorem c162_13 : qcd 162 13 = some (.getfield 194, 3) := by decide +kernel
theorem c162_16 : qcd 162 16 = some (.if_icmp .ge 28, 3) := by decide +kernel
theorem c162_19 : qcd 162 19 = some (.iload_n 1, 1) := by decide +kernel
theorem c162_20 : qcd 162 20 = some (.iload_n 3, 1) := by decide +kernel
theorem c162_21 : qcd 162 21 = some (.invokestatic 248, 3) := by decide +kernel
theorem c162_24 : qcd 162 24 = some (.ifCond .eq 14, 3) := by decide +kernel
theorem c162_27 : qcd 162 27 = some (.aload_n 0, 1) := by decide +kernel
theorem c162_28 : qcd 162 28 = some (.getfield 14, 3) := by decide +kernel
theorem c162_31 : qcd 162 31 = some (.ldc_w 535, 3) := by decide +kernel
theorem c162_34 : qcd 162 34 = some (.iload_n 3, 1) := by decide +kernel
theorem c162_35 : qcd 162 35 = some (.iadd, 1) := by decide +kernel
theorem c162_36 : qcd 162 36 = some (.iconst 0, 1) := by decide +kernel
theorem c162_37 : qcd 162 37 = some (.iastore, 1) := by decide +kernel
theorem c162_38 : qcd 162 38 = some (.iinc 3 1, 3) := by decide +kernel
theorem c162_41 : qcd 162 41 = some (.goto (-30), 3) := by decide +kernel
theorem c162_44 : qcd 162 44 = some (.iconst 0, 1) := by decide +kernel
theorem c162_45 : qcd 162 45 = some (.istore_n 3, 1) := by decide +kernel
theorem c162_46 : qcd 162 46 = some (.iload_n 3, 1) := by decide +kernel
theorem c162_47 : qcd 162 47 = some (.iload_n 2, 1) := by decide +kernel
theorem c162_48 : qcd 162 48 = some (.if_icmp .ge 16, 3) := by decide +kernel
theorem c162_51 : qcd 162 51 = some (.aload_n 0, 1) := by decide +kernel
theorem c162_52 : qcd 162 52 = some (.ldc_w 471, 3) := by decide +kernel
theorem c162_55 : qcd 162 55 = some (.invokevirtual 458, 3) := by decide +kernel
theorem c162_58 : qcd 162 58 = some (.iinc 3 1, 3) := by decide +kernel
theorem c162_61 : qcd 162 61 = some (.goto (-15), 3) := by decide +kernel
theorem c162_64 : qcd 162 64 = some (.aload_n 0, 1) := by decide +kernel
theorem c162_65 : qcd 162 65 = some (.ldc_w 471, 3) := by decide +kernel
theorem c162_68 : qcd 162 68 = some (.invokevirtual 405, 3) := by decide +kernel
theorem c162_71 : qcd 162 71 = some (.lreturn, 1) := by decide +kernel
theorem c163_0 : qcd 163 0 = some (.lconst 0, 1) := by decide +kernel
theorem c163_1 : qcd 163 1 = some (.lstore_n 2, 1) := by decide +kernel
theorem c163_2 : qcd 163 2 = some (.iconst 0, 1) := by decide +kernel
theorem c163_3 : qcd 163 3 = some (.istore 4, 2) := by decide +kernel
theorem c163_5 : qcd 163 5 = some (.iload 4, 2) := by decide +kernel
theorem c163_7 : qcd 163 7 = some (.aload_n 0, 1) := by decide +kernel
theorem c163_8 : qcd 163 8 = some (.getfield 186, 3) := by decide +kernel
theorem c163_11 : qcd 163 11 = some (.if_icmp .ge 45, 3) := by decide +kernel
theorem c163_14 : qcd 163 14 = some (.lload_n 2, 1) := by decide +kernel
theorem c163_15 : qcd 163 15 = some (.aload_n 0, 1) := by decide +kernel
theorem c163_16 : qcd 163 16 = some (.getfield 14, 3) := by decide +kernel
theorem c163_19 : qcd 163 19 = some (.iload_n 1, 1) := by decide +kernel
theorem c163_20 : qcd 163 20 = some (.bipush 51, 2) := by decide +kernel
theorem c163_22 : qcd 163 22 = some (.iadd, 1) := by decide +kernel
theorem c163_23 : qcd 163 23 = some (.iload 4, 2) := by decide +kernel
theorem c163_25 : qcd 163 25 = some (.iadd, 1) := by decide +kernel
theorem c163_26 : qcd 163 26 = some (.iaload, 1) := by decide +kernel
theorem c163_27 : qcd 163 27 = some (.iconst 1, 1) := by decide +kernel
theorem c163_28 : qcd 163 28 = some (.if_icmp .ne 19, 3) := by decide +kernel
theorem c163_31 : qcd 163 31 = some (.aload_n 0, 1) := by decide +kernel
theorem c163_32 : qcd 163 32 = some (.getfield 14, 3) := by decide +kernel
theorem c163_35 : qcd 163 35 = some (.iload_n 1, 1) := by decide +kernel
theorem c163_36 : qcd 163 36 = some (.bipush 59, 2) := by decide +kernel
theorem c163_38 : qcd 163 38 = some (.iadd, 1) := by decide +kernel
theorem c163_39 : qcd 163 39 = some (.iload 4, 2) := by decide +kernel
theorem c163_41 : qcd 163 41 = some (.iadd, 1) := by decide +kernel
theorem c163_42 : qcd 163 42 = some (.iaload, 1) := by decide +kernel
theorem c163_43 : qcd 163 43 = some (.i2l, 1) := by decide +kernel
theorem c163_44 : qcd 163 44 = some (.goto 4, 3) := by decide +kernel
theorem c163_47 : qcd 163 47 = some (.lconst 0, 1) := by decide +kernel
theorem c163_48 : qcd 163 48 = some (.ladd, 1) := by decide +kernel
theorem c163_49 : qcd 163 49 = some (.lstore_n 2, 1) := by decide +kernel
theorem c163_50 : qcd 163 50 = some (.iinc 4 1, 3) := by decide +kernel
theorem c163_53 : qcd 163 53 = some (.goto (-48), 3) := by decide +kernel
theorem c163_56 : qcd 163 56 = some (.lload_n 2, 1) := by decide +kernel
theorem c163_57 : qcd 163 57 = some (.lreturn, 1) := by decide +kernel
theorem c164_0 : qcd 164 0 = some (.iconst 0, 1) := by decide +kernel
theorem c164_1 : qcd 164 1 = some (.istore_n 2, 1) := by decide +kernel
theorem c164_2 : qcd 164 2 = some (.iconst 0, 1) := by decide +kernel
theorem c164_3 : qcd 164 3 = some (.istore_n 3, 1) := by decide +kernel
theorem c164_4 : qcd 164 4 = some (.iload_n 3, 1) := by decide +kernel
theorem c164_5 : qcd 164 5 = some (.aload_n 0, 1) := by decide +kernel
theorem c164_6 : qcd 164 6 = some (.getfield 186, 3) := by decide +kernel
theorem c164_9 : qcd 164 9 = some (.if_icmp .ge 25, 3) := by decide +kernel
theorem c164_12 : qcd 164 12 = some (.iload_n 2, 1) := by decide +kernel
theorem c164_13 : qcd 164 13 = some (.aload_n 0, 1) := by decide +kernel
theorem c164_14 : qcd 164 14 = some (.getfield 14, 3) := by decide +kernel
theorem c164_17 : qcd 164 17 = some (.iload_n 1, 1) := by decide +kernel
theorem c164_18 : qcd 164 18 = some (.bipush 51, 2) := by decide +kernel
theorem c164_20 : qcd 164 20 = some (.iadd, 1) := by decide +kernel
theorem c164_21 : qcd 164 21 = some (.iload_n 3, 1) := by decide +kernel
theorem c164_22 : qcd 164 22 = some (.iadd, 1) := by decide +kernel
theorem c164_23 : qcd 164 23 = some (.iaload, 1) := by decide +kernel
theorem c164_24 : qcd 164 24 = some (.iload_n 3, 1) := by decide +kernel
theorem c164_25 : qcd 164 25 = some (.ishl, 1) := by decide +kernel
theorem c164_26 : qcd 164 26 = some (.ior, 1) := by decide +kernel
theorem c164_27 : qcd 164 27 = some (.istore_n 2, 1) := by decide +kernel
theorem c164_28 : qcd 164 28 = some (.iinc 3 1, 3) := by decide +kernel
theorem c164_31 : qcd 164 31 = some (.goto (-27), 3) := by decide +kernel
theorem c164_34 : qcd 164 34 = some (.iload_n 2, 1) := by decide +kernel
theorem c164_35 : qcd 164 35 = some (.ireturn, 1) := by decide +kernel
theorem c165_0 : qcd 165 0 = some (.aload_n 0, 1) := by decide +kernel
theorem c165_1 : qcd 165 1 = some (.iload_n 1, 1) := by decide +kernel
theorem c165_2 : qcd 165 2 = some (.iload_n 2, 1) := by decide +kernel
theorem c165_3 : qcd 165 3 = some (.invokevirtual 239, 3) := by decide +kernel
theorem c165_6 : qcd 165 6 = some (.aload_n 0, 1) := by decide +kernel
theorem c165_7 : qcd 165 7 = some (.iload_n 1, 1) := by decide +kernel
theorem c165_8 : qcd 165 8 = some (.iload_n 2, 1) := by decide +kernel
theorem c165_9 : qcd 165 9 = some (.invokevirtual 242, 3) := by decide +kernel
theorem c165_12 : qcd 165 12 = some (.if_icmp .ge 103, 3) := by decide +kernel
theorem c165_15 : qcd 165 15 = some (.iconst (-1), 1) := by decide +kernel
theorem c165_16 : qcd 165 16 = some (.istore_n 3, 1) := by decide +kernel
theorem c165_17 : qcd 165 17 = some (.iconst 0, 1) := by decide +kernel
theorem c165_18 : qcd 165 18 = some (.istore 4, 2) := by decide +kernel
theorem c165_20 : qcd 165 20 = some (.iload 4, 2) := by decide +kernel
theorem c165_22 : qcd 165 22 = some (.aload_n 0, 1) := by decide +kernel
theorem c165_23 : qcd 165 23 = some (.getfield 186, 3) := by decide +kernel
theorem c165_26 : qcd 165 26 = some (.if_icmp .ge 54, 3) := by decide +kernel
theorem c165_29 : qcd 165 29 = some (.aload_n 0, 1) := by decide +kernel
theorem c165_30 : qcd 165 30 = some (.getfield 58, 3) := by decide +kernel
theorem c165_33 : qcd 165 33 = some (.iload 4, 2) := by decide +kernel
theorem c165_35 : qcd 165 35 = some (.iaload, 1) := by decide +kernel
theorem c165_36 : qcd 165 36 = some (.iload_n 2, 1) := by decide +kernel
theorem c165_37 : qcd 165 37 = some (.if_icmp .ne 37, 3) := by decide +kernel
theorem c165_40 : qcd 165 40 = some (.aload_n 0, 1) := by decide +kernel
theorem c165_41 : qcd 165 41 = some (.iload_n 1, 1) := by decide +kernel
theorem c165_42 : qcd 165 42 = some (.iload 4, 2) := by decide +kernel
theorem c165_44 : qcd 165 44 = some (.invokevirtual 235, 3) := by decide +kernel
theorem c165_47 : qcd 165 47 = some (.ifCond .le 27, 3) := by decide +kernel
theorem c165_50 : qcd 165 50 = some (.iload_n 3, 1) := by decide +kernel
theorem c165_51 : qcd 165 51 = some (.iconst (-1), 1) := by decide +kernel
theorem c165_52 : qcd 165 52 = some (.if_icmp .eq 19, 3) := by decide +kernel
theorem c165_55 : qcd 165 55 = some (.aload_n 0, 1) := by decide +kernel
theorem c165_56 : qcd 165 56 = some (.getfield 21, 3) := by decide +kernel
theorem c165_59 : qcd 165 59 = some (.iload 4, 2) := by decide +kernel
theorem c165_61 : qcd 165 61 = some (.iaload, 1) := by decide +kernel
theorem c165_62 : qcd 165 62 = some (.aload_n 0, 1) := by decide +kernel
theorem c165_63 : qcd 165 63 = some (.getfield 21, 3) := by decide +kernel
theorem c165_66 : qcd 165 66 = some (.iload_n 3, 1) := by decide +kernel
theorem c165_67 : qcd 165 67 = some (.iaload, 1) := by decide +kernel
theorem c165_68 : qcd 165 68 = some (.if_icmp .gt 6, 3) := by decide +kernel
theorem c165_71 : qcd 165 71 = some (.iload 4, 2) := by decide +kernel
theorem c165_73 : qcd 165 73 = some (.istore_n 3, 1) := by decide +kernel
theorem c165_74 : qcd 165 74 = some (.iinc 4 1, 3) := by decide +kernel
theorem c165_77 : qcd 165 77 = some (.goto (-57), 3) := by decide +kernel
theorem c165_80 : qcd 165 80 = some (.aload_n 0, 1) := by decide +kernel
theorem c165_81 : qcd 165 81 = some (.getfield 14, 3) := by decide +kernel
theorem c165_84 : qcd 165 84 = some (.iload_n 1, 1) := by decide +kernel
theorem c165_85 : qcd 165 85 = some (.bipush 51, 2) := by decide +kernel
theorem c165_87 : qcd 165 87 = some (.iadd, 1) := by decide +kernel
theorem c165_88 : qcd 165 88 = some (.iload_n 3, 1) := by decide +kernel
theorem c165_89 : qcd 165 89 = some (.iadd, 1) := by decide +kernel
theorem c165_90 : qcd 165 90 = some (.iconst 1, 1) := by decide +kernel
theorem c165_91 : qcd 165 91 = some (.iastore, 1) := by decide +kernel
theorem c165_92 : qcd 165 92 = some (.aload_n 0, 1) := by decide +kernel
theorem c165_93 : qcd 165 93 = some (.getfield 74, 3) := by decide +kernel
theorem c165_96 : qcd 165 96 = some (.aload_n 0, 1) := by decide +kernel
theorem c165_97 : qcd 165 97 = some (.getfield 245, 3) := by decide +kernel
theorem c165_100 : qcd 165 100 = some (.iload_n 3, 1) := by decide +kernel
theorem c165_101 : qcd 165 101 = some (.iastore, 1) := by decide +kernel
theorem c165_102 : qcd 165 102 = some (.aload_n 0, 1) := by decide +kernel
theorem c165_103 : qcd 165 103 = some (.dup, 1) := by decide +kernel
theorem c165_104 : qcd 165 104 = some (.getfield 245, 3) := by decide +kernel
theorem c165_107 : qcd 165 107 = some (.iconst 1, 1) := by decide +kernel
theorem c165_108 : qcd 165 108 = some (.iadd, 1) := by decide +kernel
theorem c165_109 : qcd 165 109 = some (.putfield 245, 3) := by decide +kernel
theorem c165_112 : qcd 165 112 = some (.goto (-112), 3) := by decide +kernel
theorem c165_115 : qcd 165 115 = some (.return_, 1) := by decide +kernel
theorem c166_0 : qcd 166 0 = some (.iload_n 1, 1) := by decide +kernel
theorem c166_1 : qcd 166 1 = some (.invokestatic 205, 3) := by decide +kernel
theorem c166_4 : qcd 166 4 = some (.ifCond .eq 42, 3) := by decide +kernel
theorem c166_7 : qcd 166 7 = some (.aload_n 0, 1) := by decide +kernel
theorem c166_8 : qcd 166 8 = some (.iload_n 2, 1) := by decide +kernel
theorem c166_9 : qcd 166 9 = some (.invokevirtual 224, 3) := by decide +kernel
theorem c166_12 : qcd 166 12 = some (.ifCond .eq 34, 3) := by decide +kernel
theorem c166_15 : qcd 166 15 = some (.iload_n 3, 1) := by decide +kernel
theorem c166_16 : qcd 166 16 = some (.i2l, 1) := by decide +kernel
theorem c166_17 : qcd 166 17 = some (.lconst 0, 1) := by decide +kernel
theorem c166_18 : qcd 166 18 = some (.ldc2_w 477, 3) := by decide +kernel
theorem c166_21 : qcd 166 21 = some (.invokestatic 190, 3) := by decide +kernel
theorem c166_24 : qcd 166 24 = some (.ifCond .eq 22, 3) := by decide +kernel
theorem c166_27 : qcd 166 27 = some (.aload_n 0, 1) := by decide +kernel
theorem c166_28 : qcd 166 28 = some (.getfield 155, 3) := by decide +kernel
theorem c166_31 : qcd 166 31 = some (.iload_n 1, 1) := by decide +kernel
theorem c166_32 : qcd 166 32 = some (.iaload, 1) := by decide +kernel
theorem c166_33 : qcd 166 33 = some (.iconst (-1), 1) := by decide +kernel
theorem c166_34 : qcd 166 34 = some (.if_icmp .eq 12, 3) := by decide +kernel
theorem c166_37 : qcd 166 37 = some (.aload_n 0, 1) := by decide +kernel
theorem c166_38 : qcd 166 38 = some (.iload_n 1, 1) := by decide +kernel
theorem c166_39 : qcd 166 39 = some (.iload_n 2, 1) := by decide +kernel
theorem c166_40 : qcd 166 40 = some (.invokevirtual 479, 3) := by decide +kernel
theorem c166_43 : qcd 166 43 = some (.ifCond .ne 7, 3) := by decide +kernel
theorem c166_46 : qcd 166 46 = some (.ldc2_w 482, 3) := by decide +kernel
theorem c166_49 : qcd 166 49 = some (.lreturn, 1) := by decide +kernel
theorem c166_50 : qcd 166 50 = some (.iload_n 3, 1) := by decide +kernel
theorem c166_51 : qcd 166 51 = some (.ifCond .ne 30, 3) := by decide +kernel
theorem c166_54 : qcd 166 54 = some (.aload_n 0, 1) := by decide +kernel
theorem c166_55 : qcd 166 55 = some (.getfield 137, 3) := by decide +kernel
theorem c166_58 : qcd 166 58 = some (.bipush 14, 2) := by decide +kernel
theorem c166_60 : qcd 166 60 = some (.aload_n 0, 1) := by decide +kernel
theorem c166_61 : qcd 166 61 = some (.getfield 155, 3) := by decide +kernel
theorem c166_64 : qcd 166 64 = some (.iload_n 1, 1) := by decide +kernel
theorem c166_65 : qcd 166 65 = some (.iaload, 1) := by decide +kernel
theorem c166_66 : qcd 166 66 = some (.imul, 1) := by decide +kernel
theorem c166_67 : qcd 166 67 = some (.iload_n 2, 1) := by decide +kernel
theorem c166_68 : qcd 166 68 = some (.iadd, 1) := by decide +kernel
theorem c166_69 : qcd 166 69 = some (.baload, 1) := by decide +kernel
theorem c166_70 : qcd 166 70 = some (.ifCond .eq 7, 3) := by decide +kernel
theorem c166_73 : qcd 166 73 = some (.lconst 1, 1) := by decide +kernel
theorem c166_74 : qcd 166 74 = some (.goto 39, 3) := by decide +kernel
theorem c166_77 : qcd 166 77 = some (.lconst 0, 1) := by decide +kernel
theorem c166_78 : qcd 166 78 = some (.goto 35, 3) := by decide +kernel
theorem c166_81 : qcd 166 81 = some (.iload_n 3, 1) := by decide +kernel
theorem c166_82 : qcd 166 82 = some (.iconst 1, 1) := by decide +kernel
theorem c166_83 : qcd 166 83 = some (.if_icmp .ne 23, 3) := by decide +kernel
theorem c166_86 : qcd 166 86 = some (.aload_n 0, 1) := by decide +kernel
theorem c166_87 : qcd 166 87 = some (.getfield 134, 3) := by decide +kernel
theorem c166_90 : qcd 166 90 = some (.bipush 14, 2) := by decide +kernel
theorem c166_92 : qcd 166 92 = some (.aload_n 0, 1) := by decide +kernel
theorem c166_93 : qcd 166 93 = some (.getfield 155, 3) := by decide +kernel
theorem c166_96 : qcd 166 96 = some (.iload_n 1, 1) := by decide +kernel
theorem c166_97 : qcd 166 97 = some (.iaload, 1) := by decide +kernel
theorem c166_98 : qcd 166 98 = some (.imul, 1) := by decide +kernel
theorem c166_99 : qcd 166 99 = some (.iload_n 2, 1) := by decide +kernel
theorem c166_100 : qcd 166 100 = some (.iadd, 1) := by decide +kernel
theorem c166_101 : qcd 166 101 = some (.iaload, 1) := by decide +kernel
theorem c166_102 : qcd 166 102 = some (.i2l, 1) := by decide +kernel
theorem c166_103 : qcd 166 103 = some (.goto 10, 3) := by decide +kernel
theorem c166_106 : qcd 166 106 = some (.aload_n 0, 1) := by decide +kernel
theorem c166_107 : qcd 166 107 = some (.getfield 155, 3) := by decide +kernel
theorem c166_110 : qcd 166 110 = some (.iload_n 1, 1) := by decide +kernel
theorem c166_111 : qcd 166 111 = some (.iaload, 1) := by decide +kernel
theorem c166_112 : qcd 166 112 = some (.i2l, 1) := by decide +kernel
theorem c166_113 : qcd 166 113 = some (.lreturn, 1) := by decide +kernel
theorem c167_0 : qcd 167 0 = some (.aload_n 0, 1) := by decide +kernel
theorem c167_1 : qcd 167 1 = some (.getfield 18, 3) := by decide +kernel
theorem c167_4 : qcd 167 4 = some (.aload_n 0, 1) := by decide +kernel
theorem c167_5 : qcd 167 5 = some (.getfield 24, 3) := by decide +kernel
theorem c167_8 : qcd 167 8 = some (.iload_n 2, 1) := by decide +kernel
theorem c167_9 : qcd 167 9 = some (.iaload, 1) := by decide +kernel
theorem c167_10 : qcd 167 10 = some (.iaload, 1) := by decide +kernel
theorem c167_11 : qcd 167 11 = some (.iload_n 1, 1) := by decide +kernel
theorem c167_12 : qcd 167 12 = some (.if_icmp .eq 18, 3) := by decide +kernel
theorem c167_15 : qcd 167 15 = some (.aload_n 0, 1) := by decide +kernel
theorem c167_16 : qcd 167 16 = some (.getfield 18, 3) := by decide +kernel
theorem c167_19 : qcd 167 19 = some (.aload_n 0, 1) := by decide +kernel
theorem c167_20 : qcd 167 20 = some (.getfield 27, 3) := by decide +kernel
theorem c167_23 : qcd 167 23 = some (.iload_n 2, 1) := by decide +kernel
theorem c167_24 : qcd 167 24 = some (.iaload, 1) := by decide +kernel
theorem c167_25 : qcd 167 25 = some (.iaload, 1) := by decide +kernel
theorem c167_26 : qcd 167 26 = some (.iload_n 1, 1) := by decide +kernel
theorem c167_27 : qcd 167 27 = some (.if_icmp .ne 7, 3) := by decide +kernel
theorem c167_30 : qcd 167 30 = some (.iconst 1, 1) := by decide +kernel
theorem c167_31 : qcd 167 31 = some (.goto 4, 3) := by decide +kernel
theorem c167_34 : qcd 167 34 = some (.iconst 0, 1) := by decide +kernel
theorem c167_35 : qcd 167 35 = some (.ireturn, 1) := by decide +kernel
theorem c168_0 : qcd 168 0 = some (.iload_n 1, 1) := by decide +kernel
theorem c168_1 : qcd 168 1 = some (.invokestatic 205, 3) := by decide +kernel
theorem c168_4 : qcd 168 4 = some (.ifCond .eq 22, 3) := by decide +kernel
theorem c168_7 : qcd 168 7 = some (.aload_n 0, 1) := by decide +kernel
theorem c168_8 : qcd 168 8 = some (.getfield 149, 3) := by decide +kernel
theorem c168_11 : qcd 168 11 = some (.iload_n 1, 1) := by decide +kernel
theorem c168_12 : qcd 168 12 = some (.baload, 1) := by decide +kernel
theorem c168_13 : qcd 168 13 = some (.ifCond .eq 13, 3) := by decide +kernel
theorem c168_16 : qcd 168 16 = some (.aload_n 0, 1) := by decide +kernel
theorem c168_17 : qcd 168 17 = some (.getfield 155, 3) := by decide +kernel
theorem c168_20 : qcd 168 20 = some (.iload_n 1, 1) := by decide +kernel
theorem c168_21 : qcd 168 21 = some (.iaload, 1) := by decide +kernel
theorem c168_22 : qcd 168 22 = some (.iconst (-1), 1) := by decide +kernel
theorem c168_23 : qcd 168 23 = some (.if_icmp .ne 5, 3) := by decide +kernel
theorem c168_26 : qcd 168 26 = some (.iconst (-1), 1) := by decide +kernel
theorem c168_27 : qcd 168 27 = some (.ireturn, 1) := by decide +kernel
theorem c168_28 : qcd 168 28 = some (.aload_n 0, 1) := by decide +kernel
theorem c168_29 : qcd 168 29 = some (.getfield 152, 3) := by decide +kernel
theorem c168_32 : qcd 168 32 = some (.iload_n 1, 1) := by decide +kernel
theorem c168_33 : qcd 168 33 = some (.iaload, 1) := by decide +kernel
theorem c168_34 : qcd 168 34 = some (.istore_n 2, 1) := by decide +kernel
theorem c168_35 : qcd 168 35 = some (.iload_n 2, 1) := by decide +kernel
theorem c168_36 : qcd 168 36 = some (.aload_n 0, 1) := by decide +kernel
theorem c168_37 : qcd 168 37 = some (.getfield 202, 3) := by decide +kernel
theorem c168_40 : qcd 168 40 = some (.if_icmp .ge 91, 3) := by decide +kernel
theorem c168_43 : qcd 168 43 = some (.iconst 0, 1) := by decide +kernel
theorem c168_44 : qcd 168 44 = some (.istore_n 3, 1) := by decide +kernel
theorem c168_45 : qcd 168 45 = some (.iload_n 3, 1) := by decide +kernel
theorem c168_46 : qcd 168 46 = some (.aload_n 0, 1) := by decide +kernel
theorem c168_47 : qcd 168 47 = some (.getfield 194, 3) := by decide +kernel
theorem c168_50 : qcd 168 50 = some (.if_icmp .ge 75, 3) := by decide +kernel
theorem c168_53 : qcd 168 53 = some (.bipush 14, 2) := by decide +kernel
theorem c168_55 : qcd 168 55 = some (.iload_n 2, 1) := by decide +kernel
theorem c168_56 : qcd 168 56 = some (.imul, 1) := by decide +kernel
theorem c168_57 : qcd 168 57 = some (.iload_n 3, 1) := by decide +kernel
theorem c168_58 : qcd 168 58 = some (.iadd, 1) := by decide +kernel
theorem c168_59 : qcd 168 59 = some (.istore 4, 2) := by decide +kernel
theorem c168_61 : qcd 168 61 = some (.bipush 14, 2) := by decide +kernel
theorem c168_63 : qcd 168 63 = some (.aload_n 0, 1) := by decide +kernel
theorem c168_64 : qcd 168 64 = some (.getfield 155, 3) := by decide +kernel
theorem c168_67 : qcd 168 67 = some (.iload_n 1, 1) := by decide +kernel
theorem c168_68 : qcd 168 68 = some (.iaload, 1) := by decide +kernel
theorem c168_69 : qcd 168 69 = some (.imul, 1) := by decide +kernel
theorem c168_70 : qcd 168 70 = some (.iload_n 3, 1) := by decide +kernel
theorem c168_71 : qcd 168 71 = some (.iadd, 1) := by decide +kernel
theorem c168_72 : qcd 168 72 = some (.istore 5, 2) := by decide +kernel
theorem c168_74 : qcd 168 74 = some (.aload_n 0, 1) := by decide +kernel
theorem c168_75 : qcd 168 75 = some (.iload_n 1, 1) := by decide +kernel
theorem c168_76 : qcd 168 76 = some (.iload_n 3, 1) := by decide +kernel
theorem c168_77 : qcd 168 77 = some (.invokevirtual 479, 3) := by decide +kernel
theorem c168_80 : qcd 168 80 = some (.ifCond .eq 39, 3) := by decide +kernel
theorem c168_83 : qcd 168 83 = some (.aload_n 0, 1) := by decide +kernel
theorem c168_84 : qcd 168 84 = some (.getfield 137, 3) := by decide +kernel
theorem c168_87 : qcd 168 87 = some (.iload 4, 2) := by decide +kernel
theorem c168_89 : qcd 168 89 = some (.baload, 1) := by decide +kernel
theorem c168_90 : qcd 168 90 = some (.aload_n 0, 1) := by decide +kernel
theorem c168_91 : qcd 168 91 = some (.getfield 137, 3) := by decide +kernel
theorem c168_94 : qcd 168 94 = some (.iload 5, 2) := by decide +kernel
theorem c168_96 : qcd 168 96 = some (.baload, 1) := by decide +kernel
theorem c168_97 : qcd 168 97 = some (.if_icmp .ne 20, 3) := by decide +kernel
theorem c168_100 : qcd 168 100 = some (.aload_n 0, 1) := by decide +kernel
theorem c168_101 : qcd 168 101 = some (.getfield 134, 3) := by decide +kernel
theorem c168_104 : qcd 168 104 = some (.iload 4, 2) := by decide +kernel
theorem c168_106 : qcd 168 106 = some (.iaload, 1) := by decide +kernel
theorem c168_107 : qcd 168 107 = some (.aload_n 0, 1) := by decide +kernel
theorem c168_108 : qcd 168 108 = some (.getfield 134, 3) := by decide +kernel
theorem c168_111 : qcd 168 111 = some (.iload 5, 2) := by decide +kernel
theorem c168_113 : qcd 168 113 = some (.iaload, 1) := by decide +kernel
theorem c168_114 : qcd 168 114 = some (.if_icmp .eq 5, 3) := by decide +kernel
theorem c168_117 : qcd 168 117 = some (.iload_n 2, 1) := by decide +kernel
theorem c168_118 : qcd 168 118 = some (.ireturn, 1) := by decide +kernel
theorem c168_119 : qcd 168 119 = some (.iinc 3 1, 3) := by decide +kernel
theorem c168_122 : qcd 168 122 = some (.goto (-77), 3) := by decide +kernel
theorem c168_125 : qcd 168 125 = some (.iinc 2 1, 3) := by decide +kernel
theorem c168_128 : qcd 168 128 = some (.goto (-93), 3) := by decide +kernel
theorem c168_131 : qcd 168 131 = some (.iconst (-1), 1) := by decide +kernel
theorem c168_132 : qcd 168 132 = some (.ireturn, 1) := by decide +kernel
theorem c169_0 : qcd 169 0 = some (.iconst 0, 1) := by decide +kernel
theorem c169_1 : qcd 169 1 = some (.istore_n 1, 1) := by decide +kernel
theorem c169_2 : qcd 169 2 = some (.iload_n 0, 1) := by decide +kernel
theorem c169_3 : qcd 169 3 = some (.istore_n 2, 1) := by decide +kernel
theorem c169_4 : qcd 169 4 = some (.iload_n 2, 1) := by decide +kernel
theorem c169_5 : qcd 169 5 = some (.ifCond .eq 15, 3) := by decide +kernel
theorem c169_8 : qcd 169 8 = some (.iinc 1 1, 3) := by decide +kernel
theorem c169_11 : qcd 169 11 = some (.iload_n 2, 1) := by decide +kernel
theorem c169_12 : qcd 169 12 = some (.iload_n 2, 1) := by decide +kernel
theorem c169_13 : qcd 169 13 = some (.iconst 1, 1) := by decide +kernel
theorem c169_14 : qcd 169 14 = some (.isub, 1) := by decide +kernel
theorem c169_15 : qcd 169 15 = some (.iand, 1) := by decide +kernel
theorem c169_16 : qcd 169 16 = some (.istore_n 2, 1) := by decide +kernel
theorem c169_17 : qcd 169 17 = some (.goto (-13), 3) := by decide +kernel
theorem c169_20 : qcd 169 20 = some (.iload_n 1, 1) := by decide +kernel
theorem c169_21 : qcd 169 21 = some (.ireturn, 1) := by decide +kernel
theorem c170_0 : qcd 170 0 = some (.lload_n 0, 1) := by decide +kernel
theorem c170_1 : qcd 170 1 = some (.lconst 0, 1) := by decide +kernel
theorem c170_2 : qcd 170 2 = some (.lcmp, 1) := by decide +kernel
theorem c170_3 : qcd 170 3 = some (.ifCond .ge 8, 3) := by decide +kernel
theorem c170_6 : qcd 170 6 = some (.lload_n 0, 1) := by decide +kernel
theorem c170_7 : qcd 170 7 = some (.lneg, 1) := by decide +kernel
theorem c170_8 : qcd 170 8 = some (.goto 4, 3) := by decide +kernel
theorem c170_11 : qcd 170 11 = some (.lload_n 0, 1) := by decide +kernel
theorem c170_12 : qcd 170 12 = some (.lreturn, 1) := by decide +kernel
theorem c171_0 : qcd 171 0 = some (.aload_n 0, 1) := by decide +kernel
theorem c171_1 : qcd 171 1 = some (.getfield 202, 3) := by decide +kernel
theorem c171_4 : qcd 171 4 = some (.ifCond .gt 43, 3) := by decide +kernel
theorem c171_7 : qcd 171 7 = some (.aload_n 0, 1) := by decide +kernel
theorem c171_8 : qcd 171 8 = some (.getfield 186, 3) := by decide +kernel
theorem c171_11 : qcd 171 11 = some (.bipush 8, 2) := by decide +kernel
theorem c171_13 : qcd 171 13 = some (.if_icmp .eq 34, 3) := by decide +kernel
theorem c171_16 : qcd 171 16 = some (.iload_n 1, 1) := by decide +kernel
theorem c171_17 : qcd 171 17 = some (.invokestatic 205, 3) := by decide +kernel
theorem c171_20 : qcd 171 20 = some (.ifCond .eq 27, 3) := by decide +kernel
theorem c171_23 : qcd 171 23 = some (.iload_n 2, 1) := by decide +kernel
theorem c171_24 : qcd 171 24 = some (.i2l, 1) := by decide +kernel
theorem c171_25 : qcd 171 25 = some (.lconst 0, 1) := by decide +kernel
theorem c171_26 : qcd 171 26 = some (.ldc2_w 209, 3) := by decide +kernel
theorem c171_29 : qcd 171 29 = some (.invokestatic 190, 3) := by decide +kernel
theorem c171_32 : qcd 171 32 = some (.ifCond .eq 15, 3) := by decide +kernel
theorem c171_35 : qcd 171 35 = some (.iload_n 3, 1) := by decide +kernel
theorem c171_36 : qcd 171 36 = some (.i2l, 1) := by decide +kernel
theorem c171_37 : qcd 171 37 = some (.lconst 0, 1) := by decide +kernel
theorem c171_38 : qcd 171 38 = some (.ldc2_w 211, 3) := by decide +kernel
theorem c171_41 : qcd 171 41 = some (.invokestatic 190, 3) := by decide +kernel
theorem c171_44 : qcd 171 44 = some (.ifCond .ne 5, 3) := by decide +kernel
theorem c171_47 : qcd 171 47 = some (.iconst (-1), 1) := by decide +kernel
theorem c171_48 : qcd 171 48 = some (.ireturn, 1) := by decide +kernel
theorem c171_49 : qcd 171 49 = some (.aload_n 0, 1) := by decide +kernel
theorem c171_50 : qcd 171 50 = some (.getfield 18, 3) := by decide +kernel
theorem c171_53 : qcd 171 53 = some (.aload_n 0, 1) := by decide +kernel
theorem c171_54 : qcd 171 54 = some (.getfield 186, 3) := by decide +kernel
theorem c171_57 : qcd 171 57 = some (.iload_n 1, 1) := by decide +kernel
theorem c171_58 : qcd 171 58 = some (.iastore, 1) := by decide +kernel
theorem c171_59 : qcd 171 59 = some (.aload_n 0, 1) := by decide +kernel
theorem c171_60 : qcd 171 60 = some (.getfield 21, 3) := by decide +kernel
theorem c171_63 : qcd 171 63 = some (.aload_n 0, 1) := by decide +kernel
theorem c171_64 : qcd 171 64 = some (.getfield 186, 3) := by decide +kernel
theorem c171_67 : qcd 171 67 = some (.iload_n 3, 1) := by decide +kernel
theorem c171_68 : qcd 171 68 = some (.iastore, 1) := by decide +kernel
theorem c171_69 : qcd 171 69 = some (.aload_n 0, 1) := by decide +kernel
theorem c171_70 : qcd 171 70 = some (.getfield 14, 3) := by decide +kernel
theorem c171_73 : qcd 171 73 = some (.ldc 213, 2) := by decide +kernel
theorem c171_75 : qcd 171 75 = some (.aload_n 0, 1) := by decide +kernel
theorem c171_76 : qcd 171 76 = some (.getfield 186, 3) := by decide +kernel
theorem c171_79 : qcd 171 79 = some (.iadd, 1) := by decide +kernel
theorem c171_80 : qcd 171 80 = some (.iload_n 2, 1) := by decide +kernel
theorem c171_81 : qcd 171 81 = some (.iastore, 1) := by decide +kernel
theorem c171_82 : qcd 171 82 = some (.aload_n 0, 1) := by decide +kernel
theorem c171_83 : qcd 171 83 = some (.dup, 1) := by decide +kernel
theorem c171_84 : qcd 171 84 = some (.getfield 186, 3) := by decide +kernel
theorem c171_87 : qcd 171 87 = some (.iconst 1, 1) := by decide +kernel
theorem c171_88 : qcd 171 88 = some (.iadd, 1) := by decide +kernel
theorem c171_89 : qcd 171 89 = some (.putfield 186, 3) := by decide +kernel
theorem c171_92 : qcd 171 92 = some (.aload_n 0, 1) := by decide +kernel
theorem c171_93 : qcd 171 93 = some (.getfield 186, 3) := by decide +kernel
theorem c171_96 : qcd 171 96 = some (.iconst 1, 1) := by decide +kernel
theorem c171_97 : qcd 171 97 = some (.isub, 1) := by decide +kernel
theorem c171_98 : qcd 171 98 = some (.ireturn, 1) := by decide +kernel
theorem c172_0 : qcd 172 0 = some (.aload_n 0, 1) := by decide +kernel
theorem c172_1 : qcd 172 1 = some (.iload_n 1, 1) := by decide +kernel
theorem c172_2 : qcd 172 2 = some (.invokevirtual 214, 3) := by decide +kernel
theorem c172_5 : qcd 172 5 = some (.ifCond .ne 5, 3) := by decide +kernel
theorem c172_8 : qcd 172 8 = some (.iconst (-1), 1) := by decide +kernel
theorem c172_9 : qcd 172 9 = some (.ireturn, 1) := by decide +kernel
theorem c172_10 : qcd 172 10 = some (.aload_n 0, 1) := by decide +kernel
theorem c172_11 : qcd 172 11 = some (.invokevirtual 466, 3) := by decide +kernel
theorem c172_14 : qcd 172 14 = some (.iload_n 2, 1) := by decide +kernel
theorem c172_15 : qcd 172 15 = some (.tableswitch 83 0 4 #[33, 43, 53, 64, 71], 33) := by decide +kernel
theorem c172_48 : qcd 172 48 = some (.aload_n 0, 1) := by decide +kernel
theorem c172_49 : qcd 172 49 = some (.getfield 14, 3) := by decide +kernel
theorem c172_52 : qcd 172 52 = some (.ldc 213, 2) := by decide +kernel
theorem c172_54 : qcd 172 54 = some (.iload_n 1, 1) := by decide +kernel
theorem c172_55 : qcd 172 55 = some (.iadd, 1) := by decide +kernel
theorem c172_56 : qcd 172 56 = some (.iaload, 1) := by decide +kernel
theorem c172_57 : qcd 172 57 = some (.ireturn, 1) := by decide +kernel
theorem c172_58 : qcd 172 58 = some (.aload_n 0, 1) := by decide +kernel
theorem c172_59 : qcd 172 59 = some (.getfield 14, 3) := by decide +kernel
theorem c172_62 : qcd 172 62 = some (.ldc 234, 2) := by decide +kernel
theorem c172_64 : qcd 172 64 = some (.iload_n 1, 1) := by decide +kernel
theorem c172_65 : qcd 172 65 = some (.iadd, 1) := by decide +kernel
theorem c172_66 : qcd 172 66 = some (.iaload, 1) := by decide +kernel
theorem c172_67 : qcd 172 67 = some (.ireturn, 1) := by decide +kernel
theorem c172_68 : qcd 172 68 = some (.aload_n 0, 1) := by decide +kernel
theorem c172_69 : qcd 172 69 = some (.getfield 14, 3) := by decide +kernel
theorem c172_72 : qcd 172 72 = some (.ldc_w 470, 3) := by decide +kernel
theorem c172_75 : qcd 172 75 = some (.iload_n 1, 1) := by decide +kernel
theorem c172_76 : qcd 172 76 = some (.iadd, 1) := by decide +kernel
theorem c172_77 : qcd 172 77 = some (.iaload, 1) := by decide +kernel
theorem c172_78 : qcd 172 78 = some (.ireturn, 1) := by decide +kernel
theorem c172_79 : qcd 172 79 = some (.aload_n 0, 1) := by decide +kernel
theorem c172_80 : qcd 172 80 = some (.getfield 58, 3) := by decide +kernel
theorem c172_83 : qcd 172 83 = some (.iload_n 1, 1) := by decide +kernel
theorem c172_84 : qcd 172 84 = some (.iaload, 1) := by decide +kernel
theorem c172_85 : qcd 172 85 = some (.ireturn, 1) := by decide +kernel
theorem c172_86 : qcd 172 86 = some (.aload_n 0, 1) := by decide +kernel
theorem c172_87 : qcd 172 87 = some (.getfield 64, 3) := by decide +kernel
theorem c172_90 : qcd 172 90 = some (.aload_n 0, 1) := by decide +kernel
theorem c172_91 : qcd 172 91 = some (.getfield 58, 3) := by decide +kernel
theorem c172_94 : qcd 172 94 = some (.iload_n 1, 1) := by decide +kernel
theorem c172_95 : qcd 172 95 = some (.iaload, 1) := by decide +kernel
theorem c172_96 : qcd 172 96 = some (.iaload, 1) := by decide +kernel
theorem c172_97 : qcd 172 97 = some (.ireturn, 1) := by decide +kernel
theorem c172_98 : qcd 172 98 = some (.iconst (-1), 1) := by decide +kernel
theorem c172_99 : qcd 172 99 = some (.ireturn, 1) := by decide +kernel
theorem c173_0 : qcd 173 0 = some (.aload_n 0, 1) := by decide +kernel
theorem c173_1 : qcd 173 1 = some (.iload_n 1, 1) := by decide +kernel
theorem c173_2 : qcd 173 2 = some (.iconst 0, 1) := by decide +kernel
theorem c173_3 : qcd 173 3 = some (.invokevirtual 263, 3) := by decide +kernel
theorem c173_6 : qcd 173 6 = some (.aload_n 0, 1) := by decide +kernel
theorem c173_7 : qcd 173 7 = some (.iconst 0, 1) := by decide +kernel
theorem c173_8 : qcd 173 8 = some (.putfield 245, 3) := by decide +kernel
theorem c173_11 : qcd 173 11 = some (.iconst 0, 1) := by decide +kernel
theorem c173_12 : qcd 173 12 = some (.istore_n 2, 1) := by decide +kernel
theorem c173_13 : qcd 173 13 = some (.iload_n 2, 1) := by decide +kernel
theorem c173_14 : qcd 173 14 = some (.bipush 9, 2) := by decide +kernel
theorem c173_16 : qcd 173 16 = some (.if_icmp .ge 16, 3) := by decide +kernel
theorem c173_19 : qcd 173 19 = some (.aload_n 0, 1) := by decide +kernel
theorem c173_20 : qcd 173 20 = some (.getfield 61, 3) := by decide +kernel
theorem c173_23 : qcd 173 23 = some (.iload_n 2, 1) := by decide +kernel
theorem c173_24 : qcd 173 24 = some (.iconst 0, 1) := by decide +kernel
theorem c173_25 : qcd 173 25 = some (.iastore, 1) := by decide +kernel
theorem c173_26 : qcd 173 26 = some (.iinc 2 1, 3) := by decide +kernel
theorem c173_29 : qcd 173 29 = some (.goto (-16), 3) := by decide +kernel
theorem c173_32 : qcd 173 32 = some (.iconst 0, 1) := by decide +kernel
theorem c173_33 : qcd 173 33 = some (.istore_n 2, 1) := by decide +kernel
theorem c173_34 : qcd 173 34 = some (.iload_n 2, 1) := by decide +kernel
theorem c173_35 : qcd 173 35 = some (.bipush 14, 2) := by decide +kernel
theorem c173_37 : qcd 173 37 = some (.if_icmp .ge 23, 3) := by decide +kernel
theorem c173_40 : qcd 173 40 = some (.aload_n 0, 1) := by decide +kernel
theorem c173_41 : qcd 173 41 = some (.getfield 67, 3) := by decide +kernel
theorem c173_44 : qcd 173 44 = some (.iload_n 2, 1) := by decide +kernel
theorem c173_45 : qcd 173 45 = some (.lconst 0, 1) := by decide +kernel
theorem c173_46 : qcd 173 46 = some (.lastore, 1) := by decide +kernel
theorem c173_47 : qcd 173 47 = some (.aload_n 0, 1) := by decide +kernel
theorem c173_48 : qcd 173 48 = some (.getfield 71, 3) := by decide +kernel
theorem c173_51 : qcd 173 51 = some (.iload_n 2, 1) := by decide +kernel
theorem c173_52 : qcd 173 52 = some (.lconst 1, 1) := by decide +kernel
theorem c173_53 : qcd 173 53 = some (.lastore, 1) := by decide +kernel
theorem c173_54 : qcd 173 54 = some (.iinc 2 1, 3) := by decide +kernel
theorem c173_57 : qcd 173 57 = some (.goto (-23), 3) := by decide +kernel
theorem c173_60 : qcd 173 60 = some (.iconst 0, 1) := by decide +kernel
theorem c173_61 : qcd 173 61 = some (.istore_n 2, 1) := by decide +kernel
theorem c173_62 : qcd 173 62 = some (.iload_n 2, 1) := by decide +kernel
theorem c173_63 : qcd 173 63 = some (.aload_n 0, 1) := by decide +kernel
theorem c173_64 : qcd 173 64 = some (.getfield 186, 3) := by decide +kernel
theorem c173_67 : qcd 173 67 = some (.if_icmp .ge 40, 3) := by decide +kernel
theorem c173_70 : qcd 173 70 = some (.aload_n 0, 1) := by decide +kernel
theorem c173_71 : qcd 173 71 = some (.getfield 58, 3) := by decide +kernel
theorem c173_74 : qcd 173 74 = some (.iload_n 2, 1) := by decide +kernel
theorem c173_75 : qcd 173 75 = some (.iaload, 1) := by decide +kernel
theorem c173_76 : qcd 173 76 = some (.iload_n 2, 1) := by decide +kernel
theorem c173_77 : qcd 173 77 = some (.if_icmp .eq 6, 3) := by decide +kernel
theorem c173_80 : qcd 173 80 = some (.goto 21, 3) := by decide +kernel
theorem c173_83 : qcd 173 83 = some (.aload_n 0, 1) := by decide +kernel
theorem c173_84 : qcd 173 84 = some (.iload_n 1, 1) := by decide +kernel
theorem c173_85 : qcd 173 85 = some (.iload_n 2, 1) := by decide +kernel
theorem c173_86 : qcd 173 86 = some (.invokevirtual 267, 3) := by decide +kernel
theorem c173_89 : qcd 173 89 = some (.aload_n 0, 1) := by decide +kernel
theorem c173_90 : qcd 173 90 = some (.iload_n 1, 1) := by decide +kernel
theorem c173_91 : qcd 173 91 = some (.iload_n 2, 1) := by decide +kernel
theorem c173_92 : qcd 173 92 = some (.invokevirtual 271, 3) := by decide +kernel
theorem c173_95 : qcd 173 95 = some (.aload_n 0, 1) := by decide +kernel
theorem c173_96 : qcd 173 96 = some (.iload_n 1, 1) := by decide +kernel
theorem c173_97 : qcd 173 97 = some (.iload_n 2, 1) := by decide +kernel
theorem c173_98 : qcd 173 98 = some (.invokevirtual 274, 3) := by decide +kernel
theorem c173_101 : qcd 173 101 = some (.iinc 2 1, 3) := by decide +kernel
theorem c173_104 : qcd 173 104 = some (.goto (-42), 3) := by decide +kernel
theorem c173_107 : qcd 173 107 = some (.return_, 1) := by decide +kernel
theorem c174_0 : qcd 174 0 = some (.aload_n 0, 1) := by decide +kernel
theorem c174_1 : qcd 174 1 = some (.ldc 230, 2) := by decide +kernel
theorem c174_3 : qcd 174 3 = some (.ldc_w 451, 3) := by decide +kernel
theorem c174_6 : qcd 174 6 = some (.invokevirtual 444, 3) := by decide +kernel
theorem c174_9 : qcd 174 9 = some (.aload_n 0, 1) := by decide +kernel
theorem c174_10 : qcd 174 10 = some (.ldc_w 451, 3) := by decide +kernel
theorem c174_13 : qcd 174 13 = some (.invokevirtual 429, 3) := by decide +kernel
theorem c174_16 : qcd 174 16 = some (.return_, 1) := by decide +kernel
theorem c175_0 : qcd 175 0 = some (.aload_n 0, 1) := by decide +kernel
theorem c175_1 : qcd 175 1 = some (.iconst 0, 1) := by decide +kernel
theorem c175_2 : qcd 175 2 = some (.putfield 424, 3) := by decide +kernel
theorem c175_5 : qcd 175 5 = some (.aload_n 0, 1) := by decide +kernel
theorem c175_6 : qcd 175 6 = some (.iload_n 1, 1) := by decide +kernel
theorem c175_7 : qcd 175 7 = some (.invokevirtual 429, 3) := by decide +kernel
theorem c175_10 : qcd 175 10 = some (.iconst 0, 1) := by decide +kernel
theorem c175_11 : qcd 175 11 = some (.istore_n 2, 1) := by decide +kernel
theorem c175_12 : qcd 175 12 = some (.iload_n 2, 1) := by decide +kernel
theorem c175_13 : qcd 175 13 = some (.aload_n 0, 1) := by decide +kernel
theorem c175_14 : qcd 175 14 = some (.getfield 245, 3) := by decide +kernel
theorem c175_17 : qcd 175 17 = some (.if_icmp .ge 20, 3) := by decide +kernel
theorem c175_20 : qcd 175 20 = some (.aload_n 0, 1) := by decide +kernel
theorem c175_21 : qcd 175 21 = some (.iconst 0, 1) := by decide +kernel
theorem c175_22 : qcd 175 22 = some (.aload_n 0, 1) := by decide +kernel
theorem c175_23 : qcd 175 23 = some (.getfield 74, 3) := by decide +kernel
theorem c175_26 : qcd 175 26 = some (.iload_n 2, 1) := by decide +kernel
theorem c175_27 : qcd 175 27 = some (.iaload, 1) := by decide +kernel
theorem c175_28 : qcd 175 28 = some (.invokevirtual 432, 3) := by decide +kernel
theorem c175_31 : qcd 175 31 = some (.iinc 2 1, 3) := by decide +kernel
theorem c175_34 : qcd 175 34 = some (.goto (-22), 3) := by decide +kernel
theorem c175_37 : qcd 175 37 = some (.aload_n 0, 1) := by decide +kernel
theorem c175_38 : qcd 175 38 = some (.iload_n 1, 1) := by decide +kernel
theorem c175_39 : qcd 175 39 = some (.invokevirtual 435, 3) := by decide +kernel
theorem c175_42 : qcd 175 42 = some (.iconst 0, 1) := by decide +kernel
theorem c175_43 : qcd 175 43 = some (.istore_n 2, 1) := by decide +kernel
theorem c175_44 : qcd 175 44 = some (.iconst 0, 1) := by decide +kernel
theorem c175_45 : qcd 175 45 = some (.istore_n 3, 1) := by decide +kernel
theorem c175_46 : qcd 175 46 = some (.iload_n 3, 1) := by decide +kernel
theorem c175_47 : qcd 175 47 = some (.aload_n 0, 1) := by decide +kernel
theorem c175_48 : qcd 175 48 = some (.getfield 194, 3) := by decide +kernel
theorem c175_51 : qcd 175 51 = some (.if_icmp .ge 82, 3) := by decide +kernel
theorem c175_54 : qcd 175 54 = some (.aload_n 0, 1) := by decide +kernel
theorem c175_55 : qcd 175 55 = some (.getfield 14, 3) := by decide +kernel
theorem c175_58 : qcd 175 58 = some (.iload_n 1, 1) := by decide +kernel
theorem c175_59 : qcd 175 59 = some (.bipush 28, 2) := by decide +kernel
theorem c175_61 : qcd 175 61 = some (.iadd, 1) := by decide +kernel
theorem c175_62 : qcd 175 62 = some (.iload_n 3, 1) := by decide +kernel
theorem c175_63 : qcd 175 63 = some (.iadd, 1) := by decide +kernel
theorem c175_64 : qcd 175 64 = some (.iaload, 1) := by decide +kernel
theorem c175_65 : qcd 175 65 = some (.istore 4, 2) := by decide +kernel
theorem c175_67 : qcd 175 67 = some (.aload_n 0, 1) := by decide +kernel
theorem c175_68 : qcd 175 68 = some (.getfield 14, 3) := by decide +kernel
theorem c175_71 : qcd 175 71 = some (.iload_n 1, 1) := by decide +kernel
theorem c175_72 : qcd 175 72 = some (.iload_n 3, 1) := by decide +kernel
theorem c175_73 : qcd 175 73 = some (.iadd, 1) := by decide +kernel
theorem c175_74 : qcd 175 74 = some (.iaload, 1) := by decide +kernel
theorem c175_75 : qcd 175 75 = some (.ifCond .ne 52, 3) := by decide +kernel
theorem c175_78 : qcd 175 78 = some (.iload 4, 2) := by decide +kernel
theorem c175_80 : qcd 175 80 = some (.ifCond .eq 47, 3) := by decide +kernel
theorem c175_83 : qcd 175 83 = some (.aload_n 0, 1) := by decide +kernel
theorem c175_84 : qcd 175 84 = some (.getfield 14, 3) := by decide +kernel
theorem c175_87 : qcd 175 87 = some (.iload_n 1, 1) := by decide +kernel
theorem c175_88 : qcd 175 88 = some (.bipush 14, 2) := by decide +kernel
theorem c175_90 : qcd 175 90 = some (.iadd, 1) := by decide +kernel
theorem c175_91 : qcd 175 91 = some (.iload_n 3, 1) := by decide +kernel
theorem c175_92 : qcd 175 92 = some (.iadd, 1) := by decide +kernel
theorem c175_93 : qcd 175 93 = some (.iaload, 1) := by decide +kernel
theorem c175_94 : qcd 175 94 = some (.iload 4, 2) := by decide +kernel
theorem c175_96 : qcd 175 96 = some (.iadd, 1) := by decide +kernel
theorem c175_97 : qcd 175 97 = some (.aload_n 0, 1) := by decide +kernel
theorem c175_98 : qcd 175 98 = some (.getfield 36, 3) := by decide +kernel
theorem c175_101 : qcd 175 101 = some (.iload_n 3, 1) := by decide +kernel
theorem c175_102 : qcd 175 102 = some (.iaload, 1) := by decide +kernel
theorem c175_103 : qcd 175 103 = some (.if_icmp .ge 6, 3) := by decide +kernel
theorem c175_106 : qcd 175 106 = some (.goto 21, 3) := by decide +kernel
theorem c175_109 : qcd 175 109 = some (.aload_n 0, 1) := by decide +kernel
theorem c175_110 : qcd 175 110 = some (.getfield 14, 3) := by decide +kernel
theorem c175_113 : qcd 175 113 = some (.iload_n 1, 1) := by decide +kernel
theorem c175_114 : qcd 175 114 = some (.iload_n 3, 1) := by decide +kernel
theorem c175_115 : qcd 175 115 = some (.iadd, 1) := by decide +kernel
theorem c175_116 : qcd 175 116 = some (.iconst 3, 1) := by decide +kernel
theorem c175_117 : qcd 175 117 = some (.iastore, 1) := by decide +kernel
theorem c175_118 : qcd 175 118 = some (.aload_n 0, 1) := by decide +kernel
theorem c175_119 : qcd 175 119 = some (.iconst 1, 1) := by decide +kernel
theorem c175_120 : qcd 175 120 = some (.iload_n 3, 1) := by decide +kernel
theorem c175_121 : qcd 175 121 = some (.invokevirtual 432, 3) := by decide +kernel
theorem c175_124 : qcd 175 124 = some (.iinc 2 1, 3) := by decide +kernel
theorem c175_127 : qcd 175 127 = some (.iinc 3 1, 3) := by decide +kernel
theorem c175_130 : qcd 175 130 = some (.goto (-84), 3) := by decide +kernel
theorem c175_133 : qcd 175 133 = some (.iconst 0, 1) := by decide +kernel
theorem c175_134 : qcd 175 134 = some (.istore_n 3, 1) := by decide +kernel
theorem c175_135 : qcd 175 135 = some (.iload_n 3, 1) := by decide +kernel
theorem c175_136 : qcd 175 136 = some (.aload_n 0, 1) := by decide +kernel
theorem c175_137 : qcd 175 137 = some (.getfield 194, 3) := by decide +kernel
theorem c175_140 : qcd 175 140 = some (.if_icmp .ge 51, 3) := by decide +kernel
theorem c175_143 : qcd 175 143 = some (.aload_n 0, 1) := by decide +kernel
theorem c175_144 : qcd 175 144 = some (.getfield 14, 3) := by decide +kernel
theorem c175_147 : qcd 175 147 = some (.iload_n 1, 1) := by decide +kernel
theorem c175_148 : qcd 175 148 = some (.iload_n 3, 1) := by decide +kernel
theorem c175_149 : qcd 175 149 = some (.iadd, 1) := by decide +kernel
theorem c175_150 : qcd 175 150 = some (.iaload, 1) := by decide +kernel
theorem c175_151 : qcd 175 151 = some (.ifCond .ne 34, 3) := by decide +kernel
theorem c175_154 : qcd 175 154 = some (.aload_n 0, 1) := by decide +kernel
theorem c175_155 : qcd 175 155 = some (.iload_n 1, 1) := by decide +kernel
theorem c175_156 : qcd 175 156 = some (.iconst 1, 1) := by decide +kernel
theorem c175_157 : qcd 175 157 = some (.iload_n 3, 1) := by decide +kernel
theorem c175_158 : qcd 175 158 = some (.invokevirtual 438, 3) := by decide +kernel
theorem c175_161 : qcd 175 161 = some (.ifCond .ne 6, 3) := by decide +kernel
theorem c175_164 : qcd 175 164 = some (.goto 21, 3) := by decide +kernel
theorem c175_167 : qcd 175 167 = some (.aload_n 0, 1) := by decide +kernel
theorem c175_168 : qcd 175 168 = some (.getfield 14, 3) := by decide +kernel
theorem c175_171 : qcd 175 171 = some (.iload_n 1, 1) := by decide +kernel
theorem c175_172 : qcd 175 172 = some (.iload_n 3, 1) := by decide +kernel
theorem c175_173 : qcd 175 173 = some (.iadd, 1) := by decide +kernel
theorem c175_174 : qcd 175 174 = some (.iconst 2, 1) := by decide +kernel
theorem c175_175 : qcd 175 175 = some (.iastore, 1) := by decide +kernel
theorem c175_176 : qcd 175 176 = some (.aload_n 0, 1) := by decide +kernel
theorem c175_177 : qcd 175 177 = some (.iconst 2, 1) := by decide +kernel
theorem c175_178 : qcd 175 178 = some (.iload_n 3, 1) := by decide +kernel
theorem c175_179 : qcd 175 179 = some (.invokevirtual 432, 3) := by decide +kernel
theorem c175_182 : qcd 175 182 = some (.iinc 2 1, 3) := by decide +kernel
theorem c175_185 : qcd 175 185 = some (.iinc 3 1, 3) := by decide +kernel
theorem c175_188 : qcd 175 188 = some (.goto (-53), 3) := by decide +kernel
theorem c175_191 : qcd 175 191 = some (.iconst 0, 1) := by decide +kernel
theorem c175_192 : qcd 175 192 = some (.istore_n 3, 1) := by decide +kernel
theorem c175_193 : qcd 175 193 = some (.iload_n 3, 1) := by decide +kernel
theorem c175_194 : qcd 175 194 = some (.aload_n 0, 1) := by decide +kernel
theorem c175_195 : qcd 175 195 = some (.getfield 197, 3) := by decide +kernel
theorem c175_198 : qcd 175 198 = some (.if_icmp .ge 54, 3) := by decide +kernel
theorem c175_201 : qcd 175 201 = some (.aload_n 0, 1) := by decide +kernel
theorem c175_202 : qcd 175 202 = some (.getfield 14, 3) := by decide +kernel
theorem c175_205 : qcd 175 205 = some (.iload_n 1, 1) := by decide +kernel
theorem c175_206 : qcd 175 206 = some (.bipush 42, 2) := by decide +kernel
theorem c175_208 : qcd 175 208 = some (.iadd, 1) := by decide +kernel
theorem c175_209 : qcd 175 209 = some (.iload_n 3, 1) := by decide +kernel
theorem c175_210 : qcd 175 210 = some (.iadd, 1) := by decide +kernel
theorem c175_211 : qcd 175 211 = some (.iaload, 1) := by decide +kernel
theorem c175_212 : qcd 175 212 = some (.ifCond .eq 34, 3) := by decide +kernel
theorem c175_215 : qcd 175 215 = some (.aload_n 0, 1) := by decide +kernel
theorem c175_216 : qcd 175 216 = some (.iload_n 1, 1) := by decide +kernel
theorem c175_217 : qcd 175 217 = some (.iconst 0, 1) := by decide +kernel
theorem c175_218 : qcd 175 218 = some (.iload_n 3, 1) := by decide +kernel
theorem c175_219 : qcd 175 219 = some (.invokevirtual 438, 3) := by decide +kernel
theorem c175_222 : qcd 175 222 = some (.ifCond .ne 6, 3) := by decide +kernel
theorem c175_225 : qcd 175 225 = some (.goto 21, 3) := by decide +kernel
theorem c175_228 : qcd 175 228 = some (.aload_n 0, 1) := by decide +kernel
theorem c175_229 : qcd 175 229 = some (.getfield 14, 3) := by decide +kernel
theorem c175_232 : qcd 175 232 = some (.iload_n 1, 1) := by decide +kernel
theorem c175_233 : qcd 175 233 = some (.bipush 42, 2) := by decide +kernel
theorem c175_235 : qcd 175 235 = some (.iadd, 1) := by decide +kernel
theorem c175_236 : qcd 175 236 = some (.iload_n 3, 1) := by decide +kernel
theorem c175_237 : qcd 175 237 = some (.iadd, 1) := by decide +kernel
theorem c175_238 : qcd 175 238 = some (.iconst 0, 1) := by decide +kernel
theorem c175_239 : qcd 175 239 = some (.iastore, 1) := by decide +kernel
theorem c175_240 : qcd 175 240 = some (.aload_n 0, 1) := by decide +kernel
theorem c175_241 : qcd 175 241 = some (.iconst 3, 1) := by decide +kernel
theorem c175_242 : qcd 175 242 = some (.iload_n 3, 1) := by decide +kernel
theorem c175_243 : qcd 175 243 = some (.invokevirtual 432, 3) := by decide +kernel
theorem c175_246 : qcd 175 246 = some (.iinc 3 1, 3) := by decide +kernel
theorem c175_249 : qcd 175 249 = some (.goto (-56), 3) := by decide +kernel
theorem c175_252 : qcd 175 252 = some (.aload_n 0, 1) := by decide +kernel
theorem c175_253 : qcd 175 253 = some (.getfield 14, 3) := by decide +kernel
theorem c175_256 : qcd 175 256 = some (.iload_n 1, 1) := by decide +kernel
theorem c175_257 : qcd 175 257 = some (.bipush 67, 2) := by decide +kernel
theorem c175_259 : qcd 175 259 = some (.iadd, 1) := by decide +kernel
theorem c175_260 : qcd 175 260 = some (.iload_n 2, 1) := by decide +kernel
theorem c175_261 : qcd 175 261 = some (.iastore, 1) := by decide +kernel
theorem c175_262 : qcd 175 262 = some (.aload_n 0, 1) := by decide +kernel
theorem c175_263 : qcd 175 263 = some (.getfield 14, 3) := by decide +kernel
theorem c175_266 : qcd 175 266 = some (.iload_n 1, 1) := by decide +kernel
theorem c175_267 : qcd 175 267 = some (.bipush 68, 2) := by decide +kernel
theorem c175_269 : qcd 175 269 = some (.iadd, 1) := by decide +kernel
theorem c175_270 : qcd 175 270 = some (.dup2, 1) := by decide +kernel
theorem c175_271 : qcd 175 271 = some (.iaload, 1) := by decide +kernel
theorem c175_272 : qcd 175 272 = some (.iconst 1, 1) := by decide +kernel
theorem c175_273 : qcd 175 273 = some (.iadd, 1) := by decide +kernel
theorem c175_274 : qcd 175 274 = some (.iastore, 1) := by decide +kernel
theorem c175_275 : qcd 175 275 = some (.return_, 1) := by decide +kernel
theorem c176_0 : qcd 176 0 = some (.iload_n 1, 1) := by decide +kernel
theorem c176_1 : qcd 176 1 = some (.invokestatic 205, 3) := by decide +kernel
theorem c176_4 : qcd 176 4 = some (.ifCond .eq 13, 3) := by decide +kernel
theorem c176_7 : qcd 176 7 = some (.aload_n 0, 1) := by decide +kernel
theorem c176_8 : qcd 176 8 = some (.getfield 149, 3) := by decide +kernel
theorem c176_11 : qcd 176 11 = some (.iload_n 1, 1) := by decide +kernel
theorem c176_12 : qcd 176 12 = some (.baload, 1) := by decide +kernel
theorem c176_13 : qcd 176 13 = some (.iload_n 2, 1) := by decide +kernel
theorem c176_14 : qcd 176 14 = some (.if_icmp .ne 5, 3) := by decide +kernel
theorem c176_17 : qcd 176 17 = some (.iconst 0, 1) := by decide +kernel
theorem c176_18 : qcd 176 18 = some (.ireturn, 1) := by decide +kernel
theorem c176_19 : qcd 176 19 = some (.aload_n 0, 1) := by decide +kernel
theorem c176_20 : qcd 176 20 = some (.getfield 149, 3) := by decide +kernel
theorem c176_23 : qcd 176 23 = some (.iload_n 1, 1) := by decide +kernel
theorem c176_24 : qcd 176 24 = some (.iload_n 2, 1) := by decide +kernel
theorem c176_25 : qcd 176 25 = some (.bastore, 1) := by decide +kernel
theorem c176_26 : qcd 176 26 = some (.aload_n 0, 1) := by decide +kernel
theorem c176_27 : qcd 176 27 = some (.getfield 152, 3) := by decide +kernel
theorem c176_30 : qcd 176 30 = some (.iload_n 1, 1) := by decide +kernel
theorem c176_31 : qcd 176 31 = some (.aload_n 0, 1) := by decide +kernel
theorem c176_32 : qcd 176 32 = some (.getfield 202, 3) := by decide +kernel
theorem c176_35 : qcd 176 35 = some (.iastore, 1) := by decide +kernel
theorem c176_36 : qcd 176 36 = some (.iconst 1, 1) := by decide +kernel
theorem c176_37 : qcd 176 37 = some (.ireturn, 1) := by decide +kernel
theorem c177_0 : qcd 177 0 = some (.aload_n 0, 1) := by decide +kernel
theorem c177_1 : qcd 177 1 = some (.invokevirtual 332, 3) := by decide +kernel
theorem c177_4 : qcd 177 4 = some (.invokestatic 335, 3) := by decide +kernel
theorem c177_7 : qcd 177 7 = some (.ifCond .ne 17, 3) := by decide +kernel
theorem c177_10 : qcd 177 10 = some (.iload_n 1, 1) := by decide +kernel
theorem c177_11 : qcd 177 11 = some (.ifCond .eq 35, 3) := by decide +kernel
theorem c177_14 : qcd 177 14 = some (.aload_n 0, 1) := by decide +kernel
theorem c177_15 : qcd 177 15 = some (.invokevirtual 332, 3) := by decide +kernel
theorem c177_18 : qcd 177 18 = some (.invokestatic 338, 3) := by decide +kernel
theorem c177_21 : qcd 177 21 = some (.ifCond .eq 25, 3) := by decide +kernel
theorem c177_24 : qcd 177 24 = some (.aload_n 0, 1) := by decide +kernel
theorem c177_25 : qcd 177 25 = some (.aload_n 0, 1) := by decide +kernel
theorem c177_26 : qcd 177 26 = some (.invokevirtual 332, 3) := by decide +kernel
theorem c177_29 : qcd 177 29 = some (.iconst 0, 1) := by decide +kernel
theorem c177_30 : qcd 177 30 = some (.invokevirtual 341, 3) := by decide +kernel
theorem c177_33 : qcd 177 33 = some (.aload_n 0, 1) := by decide +kernel
theorem c177_34 : qcd 177 34 = some (.dup, 1) := by decide +kernel
theorem c177_35 : qcd 177 35 = some (.getfield 306, 3) := by decide +kernel
theorem c177_38 : qcd 177 38 = some (.iconst 1, 1) := by decide +kernel
theorem c177_39 : qcd 177 39 = some (.isub, 1) := by decide +kernel
theorem c177_40 : qcd 177 40 = some (.putfield 306, 3) := by decide +kernel
theorem c177_43 : qcd 177 43 = some (.goto (-43), 3) := by decide +kernel
theorem c177_46 : qcd 177 46 = some (.return_, 1) := by decide +kernel
theorem c178_0 : qcd 178 0 = some (.ldc2_w 277, 3) := by decide +kernel
theorem c178_3 : qcd 178 3 = some (.aload_n 0, 1) := by decide +kernel
theorem c178_4 : qcd 178 4 = some (.getfield 67, 3) := by decide +kernel
theorem c178_7 : qcd 178 7 = some (.iload_n 1, 1) := by decide +kernel
theorem c178_8 : qcd 178 8 = some (.laload, 1) := by decide +kernel
theorem c178_9 : qcd 178 9 = some (.invokestatic 279, 3) := by decide +kernel
theorem c178_12 : qcd 178 12 = some (.lmul, 1) := by decide +kernel
theorem c178_13 : qcd 178 13 = some (.aload_n 0, 1) := by decide +kernel
theorem c178_14 : qcd 178 14 = some (.getfield 71, 3) := by decide +kernel
theorem c178_17 : qcd 178 17 = some (.iload_n 1, 1) := by decide +kernel
theorem c178_18 : qcd 178 18 = some (.laload, 1) := by decide +kernel
theorem c178_19 : qcd 178 19 = some (.ldiv, 1) := by decide +kernel
theorem c178_20 : qcd 178 20 = some (.lstore_n 2, 1) := by decide +kernel
theorem c178_21 : qcd 178 21 = some (.aload_n 0, 1) := by decide +kernel
theorem c178_22 : qcd 178 22 = some (.getfield 67, 3) := by decide +kernel
theorem c178_25 : qcd 178 25 = some (.iload_n 1, 1) := by decide +kernel
theorem c178_26 : qcd 178 26 = some (.laload, 1) := by decide +kernel
theorem c178_27 : qcd 178 27 = some (.lconst 0, 1) := by decide +kernel
theorem c178_28 : qcd 178 28 = some (.lcmp, 1) := by decide +kernel
theorem c178_29 : qcd 178 29 = some (.ifCond .ge 8, 3) := by decide +kernel
theorem c178_32 : qcd 178 32 = some (.lload_n 2, 1) := by decide +kernel
theorem c178_33 : qcd 178 33 = some (.lneg, 1) := by decide +kernel
theorem c178_34 : qcd 178 34 = some (.goto 4, 3) := by decide +kernel
theorem c178_37 : qcd 178 37 = some (.lload_n 2, 1) := by decide +kernel
theorem c178_38 : qcd 178 38 = some (.lreturn, 1) := by decide +kernel
theorem c179_0 : qcd 179 0 = some (.aload_n 0, 1) := by decide +kernel
theorem c179_1 : qcd 179 1 = some (.getfield 306, 3) := by decide +kernel
theorem c179_4 : qcd 179 4 = some (.ifCond .le 17, 3) := by decide +kernel
theorem c179_7 : qcd 179 7 = some (.aload_n 0, 1) := by decide +kernel
theorem c179_8 : qcd 179 8 = some (.getfield 116, 3) := by decide +kernel
theorem c179_11 : qcd 179 11 = some (.aload_n 0, 1) := by decide +kernel
theorem c179_12 : qcd 179 12 = some (.getfield 306, 3) := by decide +kernel
theorem c179_15 : qcd 179 15 = some (.iconst 1, 1) := by decide +kernel
theorem c179_16 : qcd 179 16 = some (.isub, 1) := by decide +kernel
theorem c179_17 : qcd 179 17 = some (.iaload, 1) := by decide +kernel
theorem c179_18 : qcd 179 18 = some (.goto 4, 3) := by decide +kernel
theorem c179_21 : qcd 179 21 = some (.iconst 0, 1) := by decide +kernel
theorem c179_22 : qcd 179 22 = some (.ireturn, 1) := by decide +kernel
theorem c180_0 : qcd 180 0 = some (.aload_n 0, 1) := by decide +kernel
theorem c180_1 : qcd 180 1 = some (.iload_n 1, 1) := by decide +kernel
theorem c180_2 : qcd 180 2 = some (.invokevirtual 224, 3) := by decide +kernel
theorem c180_5 : qcd 180 5 = some (.ifCond .eq 15, 3) := by decide +kernel
theorem c180_8 : qcd 180 8 = some (.iload_n 2, 1) := by decide +kernel
theorem c180_9 : qcd 180 9 = some (.i2l, 1) := by decide +kernel
theorem c180_10 : qcd 180 10 = some (.lconst 0, 1) := by decide +kernel
theorem c180_11 : qcd 180 11 = some (.ldc2_w 219, 3) := by decide +kernel
theorem c180_14 : qcd 180 14 = some (.invokestatic 190, 3) := by decide +kernel
theorem c180_17 : qcd 180 17 = some (.ifCond .ne 5, 3) := by decide +kernel
theorem c180_20 : qcd 180 20 = some (.iconst 0, 1) := by decide +kernel
theorem c180_21 : qcd 180 21 = some (.ireturn, 1) := by decide +kernel
theorem c180_22 : qcd 180 22 = some (.aload_n 0, 1) := by decide +kernel
theorem c180_23 : qcd 180 23 = some (.getfield 14, 3) := by decide +kernel
theorem c180_26 : qcd 180 26 = some (.ldc 227, 2) := by decide +kernel
theorem c180_28 : qcd 180 28 = some (.iload_n 1, 1) := by decide +kernel
theorem c180_29 : qcd 180 29 = some (.iadd, 1) := by decide +kernel
theorem c180_30 : qcd 180 30 = some (.iload_n 2, 1) := by decide +kernel
theorem c180_31 : qcd 180 31 = some (.iastore, 1) := by decide +kernel
theorem c180_32 : qcd 180 32 = some (.iconst 1, 1) := by decide +kernel
theorem c180_33 : qcd 180 33 = some (.ireturn, 1) := by decide +kernel
theorem c181_0 : qcd 181 0 = some (.aload_n 0, 1) := by decide +kernel
theorem c181_1 : qcd 181 1 = some (.iload_n 1, 1) := by decide +kernel
theorem c181_2 : qcd 181 2 = some (.invokevirtual 224, 3) := by decide +kernel
theorem c181_5 : qcd 181 5 = some (.ifCond .eq 37, 3) := by decide +kernel
theorem c181_8 : qcd 181 8 = some (.aload_n 0, 1) := by decide +kernel
theorem c181_9 : qcd 181 9 = some (.getfield 14, 3) := by decide +kernel
theorem c181_12 : qcd 181 12 = some (.ldc 230, 2) := by decide +kernel
theorem c181_14 : qcd 181 14 = some (.iload_n 1, 1) := by decide +kernel
theorem c181_15 : qcd 181 15 = some (.iadd, 1) := by decide +kernel
theorem c181_16 : qcd 181 16 = some (.iaload, 1) := by decide +kernel
theorem c181_17 : qcd 181 17 = some (.iconst 3, 1) := by decide +kernel
theorem c181_18 : qcd 181 18 = some (.if_icmp .eq 24, 3) := by decide +kernel
theorem c181_21 : qcd 181 21 = some (.aload_n 0, 1) := by decide +kernel
theorem c181_22 : qcd 181 22 = some (.getfield 14, 3) := by decide +kernel
theorem c181_25 : qcd 181 25 = some (.ldc 230, 2) := by decide +kernel
theorem c181_27 : qcd 181 27 = some (.iload_n 1, 1) := by decide +kernel
theorem c181_28 : qcd 181 28 = some (.iadd, 1) := by decide +kernel
theorem c181_29 : qcd 181 29 = some (.iaload, 1) := by decide +kernel
theorem c181_30 : qcd 181 30 = some (.ifCond .ne 7, 3) := by decide +kernel
theorem c181_33 : qcd 181 33 = some (.iconst 1, 1) := by decide +kernel
theorem c181_34 : qcd 181 34 = some (.goto 4, 3) := by decide +kernel
theorem c181_37 : qcd 181 37 = some (.iconst 0, 1) := by decide +kernel
theorem c181_38 : qcd 181 38 = some (.iload_n 2, 1) := by decide +kernel
theorem c181_39 : qcd 181 39 = some (.if_icmp .ne 5, 3) := by decide +kernel
theorem c181_42 : qcd 181 42 = some (.iconst 0, 1) := by decide +kernel
theorem c181_43 : qcd 181 43 = some (.ireturn, 1) := by decide +kernel
theorem c181_44 : qcd 181 44 = some (.aload_n 0, 1) := by decide +kernel
theorem c181_45 : qcd 181 45 = some (.getfield 14, 3) := by decide +kernel
theorem c181_48 : qcd 181 48 = some (.ldc 230, 2) := by decide +kernel
theorem c181_50 : qcd 181 50 = some (.iload_n 1, 1) := by decide +kernel
theorem c181_51 : qcd 181 51 = some (.iadd, 1) := by decide +kernel
theorem c181_52 : qcd 181 52 = some (.iload_n 2, 1) := by decide +kernel
theorem c181_53 : qcd 181 53 = some (.ifCond .eq 7, 3) := by decide +kernel
theorem c181_56 : qcd 181 56 = some (.iconst 0, 1) := by decide +kernel
theorem c181_57 : qcd 181 57 = some (.goto 4, 3) := by decide +kernel
theorem c181_60 : qcd 181 60 = some (.iconst 1, 1) := by decide +kernel
theorem c181_61 : qcd 181 61 = some (.iastore, 1) := by decide +kernel
theorem c181_62 : qcd 181 62 = some (.iconst 1, 1) := by decide +kernel
theorem c181_63 : qcd 181 63 = some (.ireturn, 1) := by decide +kernel
theorem c182_0 : qcd 182 0 = some (.lconst 1, 1) := by decide +kernel
theorem c182_1 : qcd 182 1 = some (.lstore_n 2, 1) := by decide +kernel
theorem c182_2 : qcd 182 2 = some (.iconst 0, 1) := by decide +kernel
theorem c182_3 : qcd 182 3 = some (.istore 4, 2) := by decide +kernel
theorem c182_5 : qcd 182 5 = some (.iload 4, 2) := by decide +kernel
theorem c182_7 : qcd 182 7 = some (.iload_n 1, 1) := by decide +kernel
theorem c182_8 : qcd 182 8 = some (.if_icmp .ge 128, 3) := by decide +kernel
theorem c182_11 : qcd 182 11 = some (.aload_n 0, 1) := by decide +kernel
theorem c182_12 : qcd 182 12 = some (.getfield 77, 3) := by decide +kernel
theorem c182_15 : qcd 182 15 = some (.bipush 15, 2) := by decide +kernel
theorem c182_17 : qcd 182 17 = some (.iload 4, 2) := by decide +kernel
theorem c182_19 : qcd 182 19 = some (.imul, 1) := by decide +kernel
theorem c182_20 : qcd 182 20 = some (.laload, 1) := by decide +kernel
theorem c182_21 : qcd 182 21 = some (.lstore 5, 2) := by decide +kernel
theorem c182_23 : qcd 182 23 = some (.iconst 0, 1) := by decide +kernel
theorem c182_24 : qcd 182 24 = some (.istore 7, 2) := by decide +kernel
theorem c182_26 : qcd 182 26 = some (.iload 7, 2) := by decide +kernel
theorem c182_28 : qcd 182 28 = some (.iload_n 1, 1) := by decide +kernel
theorem c182_29 : qcd 182 29 = some (.if_icmp .ge 98, 3) := by decide +kernel
theorem c182_32 : qcd 182 32 = some (.iload 7, 2) := by decide +kernel
theorem c182_34 : qcd 182 34 = some (.iload 4, 2) := by decide +kernel
theorem c182_36 : qcd 182 36 = some (.if_icmp .ne 6, 3) := by decide +kernel
theorem c182_39 : qcd 182 39 = some (.goto 82, 3) := by decide +kernel
theorem c182_42 : qcd 182 42 = some (.aload_n 0, 1) := by decide +kernel
theorem c182_43 : qcd 182 43 = some (.getfield 77, 3) := by decide +kernel
theorem c182_46 : qcd 182 46 = some (.bipush 14, 2) := by decide +kernel
theorem c182_48 : qcd 182 48 = some (.iload 7, 2) := by decide +kernel
theorem c182_50 : qcd 182 50 = some (.imul, 1) := by decide +kernel
theorem c182_51 : qcd 182 51 = some (.iload 4, 2) := by decide +kernel
theorem c182_53 : qcd 182 53 = some (.iadd, 1) := by decide +kernel
theorem c182_54 : qcd 182 54 = some (.laload, 1) := by decide +kernel
theorem c182_55 : qcd 182 55 = some (.lstore 8, 2) := by decide +kernel
theorem c182_57 : qcd 182 57 = some (.iconst 0, 1) := by decide +kernel
theorem c182_58 : qcd 182 58 = some (.istore 10, 2) := by decide +kernel
theorem c182_60 : qcd 182 60 = some (.iload 10, 2) := by decide +kernel
theorem c182_62 : qcd 182 62 = some (.bipush 14, 2) := by decide +kernel
theorem c182_64 : qcd 182 64 = some (.if_icmp .ge 57, 3) := by decide +kernel
theorem c182_67 : qcd 182 67 = some (.aload_n 0, 1) := by decide +kernel
theorem c182_68 : qcd 182 68 = some (.getfield 77, 3) := by decide +kernel
theorem c182_71 : qcd 182 71 = some (.bipush 14, 2) := by decide +kernel
theorem c182_73 : qcd 182 73 = some (.iload 7, 2) := by decide +kernel
theorem c182_75 : qcd 182 75 = some (.imul, 1) := by decide +kernel
theorem c182_76 : qcd 182 76 = some (.iload 10, 2) := by decide +kernel
theorem c182_78 : qcd 182 78 = some (.iadd, 1) := by decide +kernel
theorem c182_79 : qcd 182 79 = some (.lload 5, 2) := by decide +kernel
theorem c182_81 : qcd 182 81 = some (.aload_n 0, 1) := by decide +kernel
theorem c182_82 : qcd 182 82 = some (.getfield 77, 3) := by decide +kernel
theorem c182_85 : qcd 182 85 = some (.bipush 14, 2) := by decide +kernel
theorem c182_87 : qcd 182 87 = some (.iload 7, 2) := by decide +kernel
theorem c182_89 : qcd 182 89 = some (.imul, 1) := by decide +kernel
theorem c182_90 : qcd 182 90 = some (.iload 10, 2) := by decide +kernel
theorem c182_92 : qcd 182 92 = some (.iadd, 1) := by decide +kernel
theorem c182_93 : qcd 182 93 = some (.laload, 1) := by decide +kernel
theorem c182_94 : qcd 182 94 = some (.lmul, 1) := by decide +kernel
theorem c182_95 : qcd 182 95 = some (.lload 8, 2) := by decide +kernel
theorem c182_97 : qcd 182 97 = some (.aload_n 0, 1) := by decide +kernel
theorem c182_98 : qcd 182 98 = some (.getfield 77, 3) := by decide +kernel
theorem c182_101 : qcd 182 101 = some (.bipush 14, 2) := by decide +kernel
theorem c182_103 : qcd 182 103 = some (.iload 4, 2) := by decide +kernel
theorem c182_105 : qcd 182 105 = some (.imul, 1) := by decide +kernel
theorem c182_106 : qcd 182 106 = some (.iload 10, 2) := by decide +kernel
theorem c182_108 : qcd 182 108 = some (.iadd, 1) := by decide +kernel
theorem c182_109 : qcd 182 109 = some (.laload, 1) := by decide +kernel
theorem c182_110 : qcd 182 110 = some (.lmul, 1) := by decide +kernel
theorem c182_111 : qcd 182 111 = some (.lsub, 1) := by decide +kernel
theorem c182_112 : qcd 182 112 = some (.lload_n 2, 1) := by decide +kernel
theorem c182_113 : qcd 182 113 = some (.ldiv, 1) := by decide +kernel
theorem c182_114 : qcd 182 114 = some (.lastore, 1) := by decide +kernel
theorem c182_115 : qcd 182 115 = some (.iinc 10 1, 3) := by decide +kernel
theorem c182_118 : qcd 182 118 = some (.goto (-58), 3) := by decide +kernel
theorem c182_121 : qcd 182 121 = some (.iinc 7 1, 3) := by decide +kernel
theorem c182_124 : qcd 182 124 = some (.goto (-98), 3) := by decide +kernel
theorem c182_127 : qcd 182 127 = some (.lload 5, 2) := by decide +kernel
theorem c182_129 : qcd 182 129 = some (.lstore_n 2, 1) := by decide +kernel
theorem c182_130 : qcd 182 130 = some (.iinc 4 1, 3) := by decide +kernel
theorem c182_133 : qcd 182 133 = some (.goto (-128), 3) := by decide +kernel
theorem c182_136 : qcd 182 136 = some (.lload_n 2, 1) := by decide +kernel
theorem c182_137 : qcd 182 137 = some (.lreturn, 1) := by decide +kernel
theorem c183_0 : qcd 183 0 = some (.aload_n 0, 1) := by decide +kernel
theorem c183_1 : qcd 183 1 = some (.getfield 396, 3) := by decide +kernel
theorem c183_4 : qcd 183 4 = some (.istore_n 2, 1) := by decide +kernel
theorem c183_5 : qcd 183 5 = some (.aload_n 0, 1) := by decide +kernel
theorem c183_6 : qcd 183 6 = some (.getfield 399, 3) := by decide +kernel
theorem c183_9 : qcd 183 9 = some (.ifCond .eq 12, 3) := by decide +kernel
theorem c183_12 : qcd 183 12 = some (.aload_n 0, 1) := by decide +kernel
theorem c183_13 : qcd 183 13 = some (.getfield 24, 3) := by decide +kernel
theorem c183_16 : qcd 183 16 = some (.iload_n 2, 1) := by decide +kernel
theorem c183_17 : qcd 183 17 = some (.iaload, 1) := by decide +kernel
theorem c183_18 : qcd 183 18 = some (.goto 9, 3) := by decide +kernel
theorem c183_21 : qcd 183 21 = some (.aload_n 0, 1) := by decide +kernel
theorem c183_22 : qcd 183 22 = some (.getfield 42, 3) := by decide +kernel
theorem c183_25 : qcd 183 25 = some (.iload_n 2, 1) := by decide +kernel
theorem c183_26 : qcd 183 26 = some (.iaload, 1) := by decide +kernel
theorem c183_27 : qcd 183 27 = some (.istore_n 3, 1) := by decide +kernel
theorem c183_28 : qcd 183 28 = some (.iload_n 1, 1) := by decide +kernel
theorem c183_29 : qcd 183 29 = some (.tableswitch 197 100 119 #[133, 197, 156, 189, 197, 109, 197, 112, 165, 95, 142, 197, 197, 197, 120, 197, 197, 197, 197, 173], 95) := by decide +kernel
theorem c183_124 : qcd 183 124 = some (.aload_n 0, 1) := by decide +kernel
theorem c183_125 : qcd 183 125 = some (.getfield 14, 3) := by decide +kernel
theorem c183_128 : qcd 183 128 = some (.aload_n 0, 1) := by decide +kernel
theorem c183_129 : qcd 183 129 = some (.getfield 402, 3) := by decide +kernel
theorem c183_132 : qcd 183 132 = some (.bipush 68, 2) := by decide +kernel
theorem c183_134 : qcd 183 134 = some (.iadd, 1) := by decide +kernel
theorem c183_135 : qcd 183 135 = some (.iaload, 1) := by decide +kernel
theorem c183_136 : qcd 183 136 = some (.i2l, 1) := by decide +kernel
theorem c183_137 : qcd 183 137 = some (.lreturn, 1) := by decide +kernel
theorem c183_138 : qcd 183 138 = some (.iload_n 2, 1) := by decide +kernel
theorem c183_139 : qcd 183 139 = some (.i2l, 1) := by decide +kernel
theorem c183_140 : qcd 183 140 = some (.lreturn, 1) := by decide +kernel
theorem c183_141 : qcd 183 141 = some (.aload_n 0, 1) := by decide +kernel
theorem c183_142 : qcd 183 142 = some (.getfield 18, 3) := by decide +kernel
theorem c183_145 : qcd 183 145 = some (.iload_n 3, 1) := by decide +kernel
theorem c183_146 : qcd 183 146 = some (.iaload, 1) := by decide +kernel
theorem c183_147 : qcd 183 147 = some (.i2l, 1) := by decide +kernel
theorem c183_148 : qcd 183 148 = some (.lreturn, 1) := by decide +kernel
theorem c183_149 : qcd 183 149 = some (.aload_n 0, 1) := by decide +kernel
theorem c183_150 : qcd 183 150 = some (.getfield 64, 3) := by decide +kernel
theorem c183_153 : qcd 183 153 = some (.aload_n 0, 1) := by decide +kernel
theorem c183_154 : qcd 183 154 = some (.getfield 58, 3) := by decide +kernel
theorem c183_157 : qcd 183 157 = some (.iload_n 3, 1) := by decide +kernel
theorem c183_158 : qcd 183 158 = some (.iaload, 1) := by decide +kernel
theorem c183_159 : qcd 183 159 = some (.iaload, 1) := by decide +kernel
theorem c183_160 : qcd 183 160 = some (.i2l, 1) := by decide +kernel
theorem c183_161 : qcd 183 161 = some (.lreturn, 1) := by decide +kernel
theorem c183_162 : qcd 183 162 = some (.aload_n 0, 1) := by decide +kernel
theorem c183_163 : qcd 183 163 = some (.aload_n 0, 1) := by decide +kernel
theorem c183_164 : qcd 183 164 = some (.getfield 402, 3) := by decide +kernel
theorem c183_167 : qcd 183 167 = some (.invokevirtual 405, 3) := by decide +kernel
theorem c183_170 : qcd 183 170 = some (.lreturn, 1) := by decide +kernel
theorem c183_171 : qcd 183 171 = some (.aload_n 0, 1) := by decide +kernel
theorem c183_172 : qcd 183 172 = some (.getfield 14, 3) := by decide +kernel
theorem c183_175 : qcd 183 175 = some (.aload_n 0, 1) := by decide +kernel
theorem c183_176 : qcd 183 176 = some (.getfield 402, 3) := by decide +kernel
theorem c183_179 : qcd 183 179 = some (.bipush 67, 2) := by decide +kernel
theorem c183_181 : qcd 183 181 = some (.iadd, 1) := by decide +kernel
theorem c183_182 : qcd 183 182 = some (.iaload, 1) := by decide +kernel
theorem c183_183 : qcd 183 183 = some (.i2l, 1) := by decide +kernel
theorem c183_184 : qcd 183 184 = some (.lreturn, 1) := by decide +kernel
theorem c183_185 : qcd 183 185 = some (.aload_n 0, 1) := by decide +kernel
theorem c183_186 : qcd 183 186 = some (.iload_n 2, 1) := by decide +kernel
theorem c183_187 : qcd 183 187 = some (.invokevirtual 408, 3) := by decide +kernel
theorem c183_190 : qcd 183 190 = some (.invokestatic 279, 3) := by decide +kernel
theorem c183_193 : qcd 183 193 = some (.lreturn, 1) := by decide +kernel
theorem c183_194 : qcd 183 194 = some (.aload_n 0, 1) := by decide +kernel
theorem c183_195 : qcd 183 195 = some (.getfield 33, 3) := by decide +kernel
theorem c183_198 : qcd 183 198 = some (.iload_n 2, 1) := by decide +kernel
theorem c183_199 : qcd 183 199 = some (.iaload, 1) := by decide +kernel
theorem c183_200 : qcd 183 200 = some (.i2l, 1) := by decide +kernel
theorem c183_201 : qcd 183 201 = some (.lreturn, 1) := by decide +kernel
theorem c183_202 : qcd 183 202 = some (.aload_n 0, 1) := by decide +kernel
theorem c183_203 : qcd 183 203 = some (.getfield 14, 3) := by decide +kernel
theorem c183_206 : qcd 183 206 = some (.aload_n 0, 1) := by decide +kernel
theorem c183_207 : qcd 183 207 = some (.getfield 402, 3) := by decide +kernel
theorem c183_210 : qcd 183 210 = some (.bipush 14, 2) := by decide +kernel
theorem c183_212 : qcd 183 212 = some (.iadd, 1) := by decide +kernel
theorem c183_213 : qcd 183 213 = some (.iload_n 2, 1) := by decide +kernel
theorem c183_214 : qcd 183 214 = some (.iadd, 1) := by decide +kernel
theorem c183_215 : qcd 183 215 = some (.iaload, 1) := by decide +kernel
theorem c183_216 : qcd 183 216 = some (.i2l, 1) := by decide +kernel
theorem c183_217 : qcd 183 217 = some (.lreturn, 1) := by decide +kernel
theorem c183_218 : qcd 183 218 = some (.aload_n 0, 1) := by decide +kernel
theorem c183_219 : qcd 183 219 = some (.getfield 61, 3) := by decide +kernel
theorem c183_222 : qcd 183 222 = some (.iload_n 2, 1) := by decide +kernel
theorem c183_223 : qcd 183 223 = some (.iaload, 1) := by decide +kernel
theorem c183_224 : qcd 183 224 = some (.i2l, 1) := by decide +kernel
theorem c183_225 : qcd 183 225 = some (.lreturn, 1) := by decide +kernel
theorem c183_226 : qcd 183 226 = some (.aload_n 0, 1) := by decide +kernel
theorem c183_227 : qcd 183 227 = some (.getfield 45, 3) := by decide +kernel
theorem c183_230 : qcd 183 230 = some (.iload_n 2, 1) := by decide +kernel
theorem c183_231 : qcd 183 231 = some (.iaload, 1) := by decide +kernel
theorem c183_232 : qcd 183 232 = some (.i2l, 1) := by decide +kernel
theorem c183_233 : qcd 183 233 = some (.lreturn, 1) := by decide +kernel
theorem c184_0 : qcd 184 0 = some (.iconst 0, 1) := by decide +kernel
theorem c184_1 : qcd 184 1 = some (.istore_n 2, 1) := by decide +kernel
theorem c184_2 : qcd 184 2 = some (.iload_n 2, 1) := by decide +kernel
theorem c184_3 : qcd 184 3 = some (.aload_n 0, 1) := by decide +kernel
theorem c184_4 : qcd 184 4 = some (.getfield 194, 3) := by decide +kernel
theorem c184_7 : qcd 184 7 = some (.if_icmp .ge 120, 3) := by decide +kernel
theorem c184_10 : qcd 184 10 = some (.aload_n 0, 1) := by decide +kernel
theorem c184_11 : qcd 184 11 = some (.getfield 14, 3) := by decide +kernel
theorem c184_14 : qcd 184 14 = some (.iload_n 1, 1) := by decide +kernel
theorem c184_15 : qcd 184 15 = some (.iload_n 2, 1) := by decide +kernel
theorem c184_16 : qcd 184 16 = some (.iadd, 1) := by decide +kernel
theorem c184_17 : qcd 184 17 = some (.iaload, 1) := by decide +kernel
theorem c184_18 : qcd 184 18 = some (.ifCond .ne 34, 3) := by decide +kernel
theorem c184_21 : qcd 184 21 = some (.ldc2_w 277, 3) := by decide +kernel
theorem c184_24 : qcd 184 24 = some (.aload_n 0, 1) := by decide +kernel
theorem c184_25 : qcd 184 25 = some (.getfield 67, 3) := by decide +kernel
theorem c184_28 : qcd 184 28 = some (.iload_n 2, 1) := by decide +kernel
theorem c184_29 : qcd 184 29 = some (.laload, 1) := by decide +kernel
theorem c184_30 : qcd 184 30 = some (.invokestatic 279, 3) := by decide +kernel
theorem c184_33 : qcd 184 33 = some (.lmul, 1) := by decide +kernel
theorem c184_34 : qcd 184 34 = some (.aload_n 0, 1) := by decide +kernel
theorem c184_35 : qcd 184 35 = some (.getfield 71, 3) := by decide +kernel
theorem c184_38 : qcd 184 38 = some (.iload_n 2, 1) := by decide +kernel
theorem c184_39 : qcd 184 39 = some (.laload, 1) := by decide +kernel
theorem c184_40 : qcd 184 40 = some (.aload_n 0, 1) := by decide +kernel
theorem c184_41 : qcd 184 41 = some (.getfield 33, 3) := by decide +kernel
theorem c184_44 : qcd 184 44 = some (.iload_n 2, 1) := by decide +kernel
theorem c184_45 : qcd 184 45 = some (.iaload, 1) := by decide +kernel
theorem c184_46 : qcd 184 46 = some (.i2l, 1) := by decide +kernel
theorem c184_47 : qcd 184 47 = some (.lmul, 1) := by decide +kernel
theorem c184_48 : qcd 184 48 = some (.ldiv, 1) := by decide +kernel
theorem c184_49 : qcd 184 49 = some (.goto 4, 3) := by decide +kernel
theorem c184_52 : qcd 184 52 = some (.lconst 0, 1) := by decide +kernel
theorem c184_53 : qcd 184 53 = some (.lstore_n 3, 1) := by decide +kernel
theorem c184_54 : qcd 184 54 = some (.aload_n 0, 1) := by decide +kernel
theorem c184_55 : qcd 184 55 = some (.getfield 14, 3) := by decide +kernel
theorem c184_58 : qcd 184 58 = some (.iload_n 1, 1) := by decide +kernel
theorem c184_59 : qcd 184 59 = some (.bipush 14, 2) := by decide +kernel
theorem c184_61 : qcd 184 61 = some (.iadd, 1) := by decide +kernel
theorem c184_62 : qcd 184 62 = some (.iload_n 2, 1) := by decide +kernel
theorem c184_63 : qcd 184 63 = some (.iadd, 1) := by decide +kernel
theorem c184_64 : qcd 184 64 = some (.iaload, 1) := by decide +kernel
theorem c184_65 : qcd 184 65 = some (.i2l, 1) := by decide +kernel
theorem c184_66 : qcd 184 66 = some (.lload_n 3, 1) := by decide +kernel
theorem c184_67 : qcd 184 67 = some (.ladd, 1) := by decide +kernel
theorem c184_68 : qcd 184 68 = some (.aload_n 0, 1) := by decide +kernel
theorem c184_69 : qcd 184 69 = some (.getfield 14, 3) := by decide +kernel
theorem c184_72 : qcd 184 72 = some (.iload_n 1, 1) := by decide +kernel
theorem c184_73 : qcd 184 73 = some (.bipush 69, 2) := by decide +kernel
theorem c184_75 : qcd 184 75 = some (.iadd, 1) := by decide +kernel
theorem c184_76 : qcd 184 76 = some (.iaload, 1) := by decide +kernel
theorem c184_77 : qcd 184 77 = some (.i2l, 1) := by decide +kernel
theorem c184_78 : qcd 184 78 = some (.lsub, 1) := by decide +kernel
theorem c184_79 : qcd 184 79 = some (.lstore 5, 2) := by decide +kernel
theorem c184_81 : qcd 184 81 = some (.aload_n 0, 1) := by decide +kernel
theorem c184_82 : qcd 184 82 = some (.getfield 14, 3) := by decide +kernel
theorem c184_85 : qcd 184 85 = some (.iload_n 1, 1) := by decide +kernel
theorem c184_86 : qcd 184 86 = some (.bipush 14, 2) := by decide +kernel
theorem c184_88 : qcd 184 88 = some (.iadd, 1) := by decide +kernel
theorem c184_89 : qcd 184 89 = some (.iload_n 2, 1) := by decide +kernel
theorem c184_90 : qcd 184 90 = some (.iadd, 1) := by decide +kernel
theorem c184_91 : qcd 184 91 = some (.lload 5, 2) := by decide +kernel
theorem c184_93 : qcd 184 93 = some (.lconst 0, 1) := by decide +kernel
theorem c184_94 : qcd 184 94 = some (.lcmp, 1) := by decide +kernel
theorem c184_95 : qcd 184 95 = some (.ifCond .ge 7, 3) := by decide +kernel
theorem c184_98 : qcd 184 98 = some (.lconst 0, 1) := by decide +kernel
theorem c184_99 : qcd 184 99 = some (.goto 20, 3) := by decide +kernel
theorem c184_102 : qcd 184 102 = some (.lload 5, 2) := by decide +kernel
theorem c184_104 : qcd 184 104 = some (.ldc2_w 427, 3) := by decide +kernel
theorem c184_107 : qcd 184 107 = some (.lcmp, 1) := by decide +kernel
theorem c184_108 : qcd 184 108 = some (.ifCond .le 9, 3) := by decide +kernel
theorem c184_111 : qcd 184 111 = some (.ldc2_w 427, 3) := by decide +kernel
theorem c184_114 : qcd 184 114 = some (.goto 5, 3) := by decide +kernel
theorem c184_117 : qcd 184 117 = some (.lload 5, 2) := by decide +kernel
theorem c184_119 : qcd 184 119 = some (.l2i, 1) := by decide +kernel
theorem c184_120 : qcd 184 120 = some (.iastore, 1) := by decide +kernel
theorem c184_121 : qcd 184 121 = some (.iinc 2 1, 3) := by decide +kernel
theorem c184_124 : qcd 184 124 = some (.goto (-122), 3) := by decide +kernel
theorem c184_127 : qcd 184 127 = some (.return_, 1) := by decide +kernel
theorem c185_0 : qcd 185 0 = some (.aload_n 0, 1) := by decide +kernel
theorem c185_1 : qcd 185 1 = some (.getfield 202, 3) := by decide +kernel
theorem c185_4 : qcd 185 4 = some (.ifCond .gt 71, 3) := by decide +kernel
theorem c185_7 : qcd 185 7 = some (.aload_n 0, 1) := by decide +kernel
theorem c185_8 : qcd 185 8 = some (.getfield 194, 3) := by decide +kernel
theorem c185_11 : qcd 185 11 = some (.bipush 14, 2) := by decide +kernel
theorem c185_13 : qcd 185 13 = some (.if_icmp .eq 62, 3) := by decide +kernel
theorem c185_16 : qcd 185 16 = some (.aload_n 0, 1) := by decide +kernel
theorem c185_17 : qcd 185 17 = some (.iload_n 1, 1) := by decide +kernel
theorem c185_18 : qcd 185 18 = some (.invokevirtual 214, 3) := by decide +kernel
theorem c185_21 : qcd 185 21 = some (.ifCond .eq 54, 3) := by decide +kernel
theorem c185_24 : qcd 185 24 = some (.aload_n 0, 1) := by decide +kernel
theorem c185_25 : qcd 185 25 = some (.iload_n 2, 1) := by decide +kernel
theorem c185_26 : qcd 185 26 = some (.invokevirtual 214, 3) := by decide +kernel
theorem c185_29 : qcd 185 29 = some (.ifCond .eq 46, 3) := by decide +kernel
theorem c185_32 : qcd 185 32 = some (.iload_n 1, 1) := by decide +kernel
theorem c185_33 : qcd 185 33 = some (.iload_n 2, 1) := by decide +kernel
theorem c185_34 : qcd 185 34 = some (.if_icmp .eq 41, 3) := by decide +kernel
theorem c185_37 : qcd 185 37 = some (.iload_n 3, 1) := by decide +kernel
theorem c185_38 : qcd 185 38 = some (.i2l, 1) := by decide +kernel
theorem c185_39 : qcd 185 39 = some (.lconst 1, 1) := by decide +kernel
theorem c185_40 : qcd 185 40 = some (.ldc2_w 200, 3) := by decide +kernel
theorem c185_43 : qcd 185 43 = some (.invokestatic 190, 3) := by decide +kernel
theorem c185_46 : qcd 185 46 = some (.ifCond .eq 29, 3) := by decide +kernel
theorem c185_49 : qcd 185 49 = some (.iload 4, 2) := by decide +kernel
theorem c185_51 : qcd 185 51 = some (.i2l, 1) := by decide +kernel
theorem c185_52 : qcd 185 52 = some (.lconst 1, 1) := by decide +kernel
theorem c185_53 : qcd 185 53 = some (.ldc2_w 217, 3) := by decide +kernel
theorem c185_56 : qcd 185 56 = some (.invokestatic 190, 3) := by decide +kernel
theorem c185_59 : qcd 185 59 = some (.ifCond .eq 16, 3) := by decide +kernel
theorem c185_62 : qcd 185 62 = some (.iload 5, 2) := by decide +kernel
theorem c185_64 : qcd 185 64 = some (.i2l, 1) := by decide +kernel
theorem c185_65 : qcd 185 65 = some (.lconst 1, 1) := by decide +kernel
theorem c185_66 : qcd 185 66 = some (.ldc2_w 219, 3) := by decide +kernel
theorem c185_69 : qcd 185 69 = some (.invokestatic 190, 3) := by decide +kernel
theorem c185_72 : qcd 185 72 = some (.ifCond .ne 5, 3) := by decide +kernel
theorem c185_75 : qcd 185 75 = some (.iconst (-1), 1) := by decide +kernel
theorem c185_76 : qcd 185 76 = some (.ireturn, 1) := by decide +kernel
theorem c185_77 : qcd 185 77 = some (.aload_n 0, 1) := by decide +kernel
theorem c185_78 : qcd 185 78 = some (.getfield 24, 3) := by decide +kernel
theorem c185_81 : qcd 185 81 = some (.aload_n 0, 1) := by decide +kernel
theorem c185_82 : qcd 185 82 = some (.getfield 194, 3) := by decide +kernel
theorem c185_85 : qcd 185 85 = some (.iload_n 1, 1) := by decide +kernel
theorem c185_86 : qcd 185 86 = some (.iastore, 1) := by decide +kernel
theorem c185_87 : qcd 185 87 = some (.aload_n 0, 1) := by decide +kernel
theorem c185_88 : qcd 185 88 = some (.getfield 27, 3) := by decide +kernel
theorem c185_91 : qcd 185 91 = some (.aload_n 0, 1) := by decide +kernel
theorem c185_92 : qcd 185 92 = some (.getfield 194, 3) := by decide +kernel
theorem c185_95 : qcd 185 95 = some (.iload_n 2, 1) := by decide +kernel
theorem c185_96 : qcd 185 96 = some (.iastore, 1) := by decide +kernel
theorem c185_97 : qcd 185 97 = some (.aload_n 0, 1) := by decide +kernel
theorem c185_98 : qcd 185 98 = some (.getfield 30, 3) := by decide +kernel
theorem c185_101 : qcd 185 101 = some (.aload_n 0, 1) := by decide +kernel
theorem c185_102 : qcd 185 102 = some (.getfield 194, 3) := by decide +kernel
theorem c185_105 : qcd 185 105 = some (.iload_n 3, 1) := by decide +kernel
theorem c185_106 : qcd 185 106 = some (.iastore, 1) := by decide +kernel
theorem c185_107 : qcd 185 107 = some (.aload_n 0, 1) := by decide +kernel
theorem c185_108 : qcd 185 108 = some (.getfield 33, 3) := by decide +kernel
theorem c185_111 : qcd 185 111 = some (.aload_n 0, 1) := by decide +kernel
theorem c185_112 : qcd 185 112 = some (.getfield 194, 3) := by decide +kernel
theorem c185_115 : qcd 185 115 = some (.iload 4, 2) := by decide +kernel
theorem c185_117 : qcd 185 117 = some (.iastore, 1) := by decide +kernel
theorem c185_118 : qcd 185 118 = some (.aload_n 0, 1) := by decide +kernel
theorem c185_119 : qcd 185 119 = some (.getfield 36, 3) := by decide +kernel
theorem c185_122 : qcd 185 122 = some (.aload_n 0, 1) := by decide +kernel
theorem c185_123 : qcd 185 123 = some (.getfield 194, 3) := by decide +kernel
theorem c185_126 : qcd 185 126 = some (.iload 5, 2) := by decide +kernel
theorem c185_128 : qcd 185 128 = some (.iastore, 1) := by decide +kernel
theorem c185_129 : qcd 185 129 = some (.aload_n 0, 1) := by decide +kernel
theorem c185_130 : qcd 185 130 = some (.dup, 1) := by decide +kernel
theorem c185_131 : qcd 185 131 = some (.getfield 194, 3) := by decide +kernel
theorem c185_134 : qcd 185 134 = some (.iconst 1, 1) := by decide +kernel
theorem c185_135 : qcd 185 135 = some (.iadd, 1) := by decide +kernel
theorem c185_136 : qcd 185 136 = some (.putfield 194, 3) := by decide +kernel
theorem c185_139 : qcd 185 139 = some (.aload_n 0, 1) := by decide +kernel
theorem c185_140 : qcd 185 140 = some (.getfield 194, 3) := by decide +kernel
theorem c185_143 : qcd 185 143 = some (.iconst 1, 1) := by decide +kernel
theorem c185_144 : qcd 185 144 = some (.isub, 1) := by decide +kernel
theorem c185_145 : qcd 185 145 = some (.ireturn, 1) := by decide +kernel
theorem c186_0 : qcd 186 0 = some (.aload_n 0, 1) := by decide +kernel
theorem c186_1 : qcd 186 1 = some (.iload_n 1, 1) := by decide +kernel
theorem c186_2 : qcd 186 2 = some (.invokevirtual 224, 3) := by decide +kernel
theorem c186_5 : qcd 186 5 = some (.ifCond .ne 5, 3) := by decide +kernel
theorem c186_8 : qcd 186 8 = some (.iconst (-1), 1) := by decide +kernel
theorem c186_9 : qcd 186 9 = some (.ireturn, 1) := by decide +kernel
theorem c186_10 : qcd 186 10 = some (.iload_n 2, 1) := by decide +kernel
theorem c186_11 : qcd 186 11 = some (.tableswitch 77 0 3 #[29, 39, 50, 60], 29) := by decide +kernel
theorem c186_40 : qcd 186 40 = some (.aload_n 0, 1) := by decide +kernel
theorem c186_41 : qcd 186 41 = some (.getfield 14, 3) := by decide +kernel
theorem c186_44 : qcd 186 44 = some (.ldc 230, 2) := by decide +kernel
theorem c186_46 : qcd 186 46 = some (.iload_n 1, 1) := by decide +kernel
theorem c186_47 : qcd 186 47 = some (.iadd, 1) := by decide +kernel
theorem c186_48 : qcd 186 48 = some (.iaload, 1) := by decide +kernel
theorem c186_49 : qcd 186 49 = some (.ireturn, 1) := by decide +kernel
theorem c186_50 : qcd 186 50 = some (.aload_n 0, 1) := by decide +kernel
theorem c186_51 : qcd 186 51 = some (.getfield 14, 3) := by decide +kernel
theorem c186_54 : qcd 186 54 = some (.ldc_w 469, 3) := by decide +kernel
theorem c186_57 : qcd 186 57 = some (.iload_n 1, 1) := by decide +kernel
theorem c186_58 : qcd 186 58 = some (.iadd, 1) := by decide +kernel
theorem c186_59 : qcd 186 59 = some (.iaload, 1) := by decide +kernel
theorem c186_60 : qcd 186 60 = some (.ireturn, 1) := by decide +kernel
theorem c186_61 : qcd 186 61 = some (.aload_n 0, 1) := by decide +kernel
theorem c186_62 : qcd 186 62 = some (.getfield 14, 3) := by decide +kernel
theorem c186_65 : qcd 186 65 = some (.ldc 227, 2) := by decide +kernel
theorem c186_67 : qcd 186 67 = some (.iload_n 1, 1) := by decide +kernel
theorem c186_68 : qcd 186 68 = some (.iadd, 1) := by decide +kernel
theorem c186_69 : qcd 186 69 = some (.iaload, 1) := by decide +kernel
theorem c186_70 : qcd 186 70 = some (.ireturn, 1) := by decide +kernel
theorem c186_71 : qcd 186 71 = some (.aload_n 0, 1) := by decide +kernel
theorem c186_72 : qcd 186 72 = some (.invokevirtual 455, 3) := by decide +kernel
theorem c186_75 : qcd 186 75 = some (.iload_n 1, 1) := by decide +kernel
theorem c186_76 : qcd 186 76 = some (.invokestatic 248, 3) := by decide +kernel
theorem c186_79 : qcd 186 79 = some (.ifCond .eq 7, 3) := by decide +kernel
theorem c186_82 : qcd 186 82 = some (.iconst 1, 1) := by decide +kernel
theorem c186_83 : qcd 186 83 = some (.goto 4, 3) := by decide +kernel
theorem c186_86 : qcd 186 86 = some (.iconst 0, 1) := by decide +kernel
theorem c186_87 : qcd 186 87 = some (.ireturn, 1) := by decide +kernel
theorem c186_88 : qcd 186 88 = some (.iconst (-1), 1) := by decide +kernel
theorem c186_89 : qcd 186 89 = some (.ireturn, 1) := by decide +kernel
theorem c187_0 : qcd 187 0 = some (.iload_n 0, 1) := by decide +kernel
theorem c187_1 : qcd 187 1 = some (.lookupswitch 131 #[(37, 93), (42, 75), (43, 67), (45, 71), (47, 79), (60, 107), (62, 119)], 67) := by decide +kernel
theorem c187_68 : qcd 187 68 = some (.lload_n 1, 1) := by decide +kernel
theorem c187_69 : qcd 187 69 = some (.lload_n 3, 1) := by decide +kernel
theorem c187_70 : qcd 187 70 = some (.ladd, 1) := by decide +kernel
theorem c187_71 : qcd 187 71 = some (.lreturn, 1) := by decide +kernel
theorem c187_72 : qcd 187 72 = some (.lload_n 1, 1) := by decide +kernel
theorem c187_73 : qcd 187 73 = some (.lload_n 3, 1) := by decide +kernel
theorem c187_74 : qcd 187 74 = some (.lsub, 1) := by decide +kernel
theorem c187_75 : qcd 187 75 = some (.lreturn, 1) := by decide +kernel
theorem c187_76 : qcd 187 76 = some (.lload_n 1, 1) := by decide +kernel
theorem c187_77 : qcd 187 77 = some (.lload_n 3, 1) := by decide +kernel
theorem c187_78 : qcd 187 78 = some (.lmul, 1) := by decide +kernel
theorem c187_79 : qcd 187 79 = some (.lreturn, 1) := by decide +kernel
theorem c187_80 : qcd 187 80 = some (.lload_n 3, 1) := by decide +kernel
theorem c187_81 : qcd 187 81 = some (.lconst 0, 1) := by decide +kernel
theorem c187_82 : qcd 187 82 = some (.lcmp, 1) := by decide +kernel
theorem c187_83 : qcd 187 83 = some (.ifCond .ne 7, 3) := by decide +kernel
theorem c187_86 : qcd 187 86 = some (.lconst 0, 1) := by decide +kernel
theorem c187_87 : qcd 187 87 = some (.goto 6, 3) := by decide +kernel
theorem c187_90 : qcd 187 90 = some (.lload_n 1, 1) := by decide +kernel
theorem c187_91 : qcd 187 91 = some (.lload_n 3, 1) := by decide +kernel
theorem c187_92 : qcd 187 92 = some (.ldiv, 1) := by decide +kernel
theorem c187_93 : qcd 187 93 = some (.lreturn, 1) := by decide +kernel
theorem c187_94 : qcd 187 94 = some (.lload_n 3, 1) := by decide +kernel
theorem c187_95 : qcd 187 95 = some (.lconst 0, 1) := by decide +kernel
theorem c187_96 : qcd 187 96 = some (.lcmp, 1) := by decide +kernel
theorem c187_97 : qcd 187 97 = some (.ifCond .ne 7, 3) := by decide +kernel
theorem c187_100 : qcd 187 100 = some (.lconst 0, 1) := by decide +kernel
theorem c187_101 : qcd 187 101 = some (.goto 6, 3) := by decide +kernel
theorem c187_104 : qcd 187 104 = some (.lload_n 1, 1) := by decide +kernel
theorem c187_105 : qcd 187 105 = some (.lload_n 3, 1) := by decide +kernel
theorem c187_106 : qcd 187 106 = some (.lrem, 1) := by decide +kernel
theorem c187_107 : qcd 187 107 = some (.lreturn, 1) := by decide +kernel
theorem c187_108 : qcd 187 108 = some (.lload_n 1, 1) := by decide +kernel
theorem c187_109 : qcd 187 109 = some (.lload_n 3, 1) := by decide +kernel
theorem c187_110 : qcd 187 110 = some (.lcmp, 1) := by decide +kernel
theorem c187_111 : qcd 187 111 = some (.ifCond .ge 7, 3) := by decide +kernel
theorem c187_114 : qcd 187 114 = some (.lconst 1, 1) := by decide +kernel
theorem c187_115 : qcd 187 115 = some (.goto 4, 3) := by decide +kernel
theorem c187_118 : qcd 187 118 = some (.lconst 0, 1) := by decide +kernel
theorem c187_119 : qcd 187 119 = some (.lreturn, 1) := by decide +kernel
theorem c187_120 : qcd 187 120 = some (.lload_n 1, 1) := by decide +kernel
theorem c187_121 : qcd 187 121 = some (.lload_n 3, 1) := by decide +kernel
theorem c187_122 : qcd 187 122 = some (.lcmp, 1) := by decide +kernel
theorem c187_123 : qcd 187 123 = some (.ifCond .le 7, 3) := by decide +kernel
theorem c187_126 : qcd 187 126 = some (.lconst 1, 1) := by decide +kernel
theorem c187_127 : qcd 187 127 = some (.goto 4, 3) := by decide +kernel
theorem c187_130 : qcd 187 130 = some (.lconst 0, 1) := by decide +kernel
theorem c187_131 : qcd 187 131 = some (.lreturn, 1) := by decide +kernel
theorem c187_132 : qcd 187 132 = some (.lload_n 1, 1) := by decide +kernel
theorem c187_133 : qcd 187 133 = some (.lload_n 3, 1) := by decide +kernel
theorem c187_134 : qcd 187 134 = some (.lcmp, 1) := by decide +kernel
theorem c187_135 : qcd 187 135 = some (.ifCond .ne 7, 3) := by decide +kernel
theorem c187_138 : qcd 187 138 = some (.lconst 1, 1) := by decide +kernel
theorem c187_139 : qcd 187 139 = some (.goto 4, 3) := by decide +kernel
theorem c187_142 : qcd 187 142 = some (.lconst 0, 1) := by decide +kernel
theorem c187_143 : qcd 187 143 = some (.lreturn, 1) := by decide +kernel
theorem c188_0 : qcd 188 0 = some (.aload_n 0, 1) := by decide +kernel
theorem c188_1 : qcd 188 1 = some (.getfield 202, 3) := by decide +kernel
theorem c188_4 : qcd 188 4 = some (.ifCond .gt 44, 3) := by decide +kernel
theorem c188_7 : qcd 188 7 = some (.aload_n 0, 1) := by decide +kernel
theorem c188_8 : qcd 188 8 = some (.getfield 197, 3) := by decide +kernel
theorem c188_11 : qcd 188 11 = some (.bipush 9, 2) := by decide +kernel
theorem c188_13 : qcd 188 13 = some (.if_icmp .eq 35, 3) := by decide +kernel
theorem c188_16 : qcd 188 16 = some (.aload_n 0, 1) := by decide +kernel
theorem c188_17 : qcd 188 17 = some (.iload_n 1, 1) := by decide +kernel
theorem c188_18 : qcd 188 18 = some (.invokevirtual 214, 3) := by decide +kernel
theorem c188_21 : qcd 188 21 = some (.ifCond .eq 27, 3) := by decide +kernel
theorem c188_24 : qcd 188 24 = some (.iload_n 2, 1) := by decide +kernel
theorem c188_25 : qcd 188 25 = some (.i2l, 1) := by decide +kernel
theorem c188_26 : qcd 188 26 = some (.lconst 1, 1) := by decide +kernel
theorem c188_27 : qcd 188 27 = some (.ldc2_w 217, 3) := by decide +kernel
theorem c188_30 : qcd 188 30 = some (.invokestatic 190, 3) := by decide +kernel
theorem c188_33 : qcd 188 33 = some (.ifCond .eq 15, 3) := by decide +kernel
theorem c188_36 : qcd 188 36 = some (.iload_n 3, 1) := by decide +kernel
theorem c188_37 : qcd 188 37 = some (.i2l, 1) := by decide +kernel
theorem c188_38 : qcd 188 38 = some (.lconst 0, 1) := by decide +kernel
theorem c188_39 : qcd 188 39 = some (.ldc2_w 221, 3) := by decide +kernel
theorem c188_42 : qcd 188 42 = some (.invokestatic 190, 3) := by decide +kernel
theorem c188_45 : qcd 188 45 = some (.ifCond .ne 5, 3) := by decide +kernel
theorem c188_48 : qcd 188 48 = some (.iconst (-1), 1) := by decide +kernel
theorem c188_49 : qcd 188 49 = some (.ireturn, 1) := by decide +kernel
theorem c188_50 : qcd 188 50 = some (.aload_n 0, 1) := by decide +kernel
theorem c188_51 : qcd 188 51 = some (.getfield 42, 3) := by decide +kernel
theorem c188_54 : qcd 188 54 = some (.aload_n 0, 1) := by decide +kernel
theorem c188_55 : qcd 188 55 = some (.getfield 197, 3) := by decide +kernel
theorem c188_58 : qcd 188 58 = some (.iload_n 1, 1) := by decide +kernel
theorem c188_59 : qcd 188 59 = some (.iastore, 1) := by decide +kernel
theorem c188_60 : qcd 188 60 = some (.aload_n 0, 1) := by decide +kernel
theorem c188_61 : qcd 188 61 = some (.getfield 45, 3) := by decide +kernel
theorem c188_64 : qcd 188 64 = some (.aload_n 0, 1) := by decide +kernel
theorem c188_65 : qcd 188 65 = some (.getfield 197, 3) := by decide +kernel
theorem c188_68 : qcd 188 68 = some (.iload_n 2, 1) := by decide +kernel
theorem c188_69 : qcd 188 69 = some (.iastore, 1) := by decide +kernel
theorem c188_70 : qcd 188 70 = some (.aload_n 0, 1) := by decide +kernel
theorem c188_71 : qcd 188 71 = some (.getfield 48, 3) := by decide +kernel
theorem c188_74 : qcd 188 74 = some (.aload_n 0, 1) := by decide +kernel
theorem c188_75 : qcd 188 75 = some (.getfield 197, 3) := by decide +kernel
theorem c188_78 : qcd 188 78 = some (.iload_n 3, 1) := by decide +kernel
theorem c188_79 : qcd 188 79 = some (.iastore, 1) := by decide +kernel
theorem c188_80 : qcd 188 80 = some (.aload_n 0, 1) := by decide +kernel
theorem c188_81 : qcd 188 81 = some (.getfield 14, 3) := by decide +kernel
theorem c188_84 : qcd 188 84 = some (.ldc 223, 2) := by decide +kernel
theorem c188_86 : qcd 188 86 = some (.aload_n 0, 1) := by decide +kernel
theorem c188_87 : qcd 188 87 = some (.getfield 197, 3) := by decide +kernel
theorem c188_90 : qcd 188 90 = some (.iadd, 1) := by decide +kernel
theorem c188_91 : qcd 188 91 = some (.iconst 1, 1) := by decide +kernel
theorem c188_92 : qcd 188 92 = some (.iastore, 1) := by decide +kernel
theorem c188_93 : qcd 188 93 = some (.aload_n 0, 1) := by decide +kernel
theorem c188_94 : qcd 188 94 = some (.dup, 1) := by decide +kernel
theorem c188_95 : qcd 188 95 = some (.getfield 197, 3) := by decide +kernel
theorem c188_98 : qcd 188 98 = some (.iconst 1, 1) := by decide +kernel
theorem c188_99 : qcd 188 99 = some (.iadd, 1) := by decide +kernel
theorem c188_100 : qcd 188 100 = some (.putfield 197, 3) := by decide +kernel
theorem c188_103 : qcd 188 103 = some (.aload_n 0, 1) := by decide +kernel
theorem c188_104 : qcd 188 104 = some (.getfield 197, 3) := by decide +kernel
theorem c188_107 : qcd 188 107 = some (.iconst 1, 1) := by decide +kernel
theorem c188_108 : qcd 188 108 = some (.isub, 1) := by decide +kernel
theorem c188_109 : qcd 188 109 = some (.ireturn, 1) := by decide +kernel
theorem c189_0 : qcd 189 0 = some (.aload_n 0, 1) := by decide +kernel
theorem c189_1 : qcd 189 1 = some (.iload_n 1, 1) := by decide +kernel
theorem c189_2 : qcd 189 2 = some (.invokevirtual 231, 3) := by decide +kernel
theorem c189_5 : qcd 189 5 = some (.ifCond .eq 13, 3) := by decide +kernel
theorem c189_8 : qcd 189 8 = some (.iload_n 2, 1) := by decide +kernel
theorem c189_9 : qcd 189 9 = some (.i2l, 1) := by decide +kernel
theorem c189_10 : qcd 189 10 = some (.lconst 0, 1) := by decide +kernel
theorem c189_11 : qcd 189 11 = some (.lconst 1, 1) := by decide +kernel
theorem c189_12 : qcd 189 12 = some (.invokestatic 190, 3) := by decide +kernel
theorem c189_15 : qcd 189 15 = some (.ifCond .ne 5, 3) := by decide +kernel
theorem c189_18 : qcd 189 18 = some (.iconst (-1), 1) := by decide +kernel
theorem c189_19 : qcd 189 19 = some (.ireturn, 1) := by decide +kernel
theorem c189_20 : qcd 189 20 = some (.iload_n 2, 1) := by decide +kernel
theorem c189_21 : qcd 189 21 = some (.ifCond .ne 13, 3) := by decide +kernel
theorem c189_24 : qcd 189 24 = some (.aload_n 0, 1) := by decide +kernel
theorem c189_25 : qcd 189 25 = some (.getfield 14, 3) := by decide +kernel
theorem c189_28 : qcd 189 28 = some (.ldc 223, 2) := by decide +kernel
theorem c189_30 : qcd 189 30 = some (.iload_n 1, 1) := by decide +kernel
theorem c189_31 : qcd 189 31 = some (.iadd, 1) := by decide +kernel
theorem c189_32 : qcd 189 32 = some (.iaload, 1) := by decide +kernel
theorem c189_33 : qcd 189 33 = some (.ireturn, 1) := by decide +kernel
theorem c189_34 : qcd 189 34 = some (.aload_n 0, 1) := by decide +kernel
theorem c189_35 : qcd 189 35 = some (.invokevirtual 466, 3) := by decide +kernel
theorem c189_38 : qcd 189 38 = some (.aload_n 0, 1) := by decide +kernel
theorem c189_39 : qcd 189 39 = some (.getfield 61, 3) := by decide +kernel
theorem c189_42 : qcd 189 42 = some (.iload_n 1, 1) := by decide +kernel
theorem c189_43 : qcd 189 43 = some (.iaload, 1) := by decide +kernel
theorem c189_44 : qcd 189 44 = some (.ireturn, 1) := by decide +kernel
theorem c190_0 : qcd 190 0 = some (.aload_n 0, 1) := by decide +kernel
theorem c190_1 : qcd 190 1 = some (.aload_n 0, 1) := by decide +kernel
theorem c190_2 : qcd 190 2 = some (.getfield 296, 3) := by decide +kernel
theorem c190_5 : qcd 190 5 = some (.ifCond .ge 10, 3) := by decide +kernel
theorem c190_8 : qcd 190 8 = some (.aload_n 0, 1) := by decide +kernel
theorem c190_9 : qcd 190 9 = some (.getfield 296, 3) := by decide +kernel
theorem c190_12 : qcd 190 12 = some (.goto 10, 3) := by decide +kernel
theorem c190_15 : qcd 190 15 = some (.sipush (-1000), 3) := by decide +kernel
theorem c190_18 : qcd 190 18 = some (.iload_n 1, 1) := by decide +kernel
theorem c190_19 : qcd 190 19 = some (.imul, 1) := by decide +kernel
theorem c190_20 : qcd 190 20 = some (.iload_n 2, 1) := by decide +kernel
theorem c190_21 : qcd 190 21 = some (.isub, 1) := by decide +kernel
theorem c190_22 : qcd 190 22 = some (.putfield 296, 3) := by decide +kernel
theorem c190_25 : qcd 190 25 = some (.return_, 1) := by decide +kernel
theorem c191_0 : qcd 191 0 = some (.aload_n 0, 1) := by decide +kernel
theorem c191_1 : qcd 191 1 = some (.getfield 9, 3) := by decide +kernel
theorem c191_4 : qcd 191 4 = some (.iload 4, 2) := by decide +kernel
theorem c191_6 : qcd 191 6 = some (.baload, 1) := by decide +kernel
theorem c191_7 : qcd 191 7 = some (.ifCond .ne 23, 3) := by decide +kernel
theorem c191_10 : qcd 191 10 = some (.iload_n 3, 1) := by decide +kernel
theorem c191_11 : qcd 191 11 = some (.aload_n 0, 1) := by decide +kernel
theorem c191_12 : qcd 191 12 = some (.getfield 28, 3) := by decide +kernel
theorem c191_15 : qcd 191 15 = some (.aload_n 1, 1) := by decide +kernel
theorem c191_16 : qcd 191 16 = some (.getfield 60, 3) := by decide +kernel
theorem c191_19 : qcd 191 19 = some (.iload 4, 2) := by decide +kernel
theorem c191_21 : qcd 191 21 = some (.iaload, 1) := by decide +kernel
theorem c191_22 : qcd 191 22 = some (.iaload, 1) := by decide +kernel
theorem c191_23 : qcd 191 23 = some (.ishr, 1) := by decide +kernel
theorem c191_24 : qcd 191 24 = some (.iconst 1, 1) := by decide +kernel
theorem c191_25 : qcd 191 25 = some (.iand, 1) := by decide +kernel
theorem c191_26 : qcd 191 26 = some (.iconst 1, 1) := by decide +kernel
theorem c191_27 : qcd 191 27 = some (.if_icmp .ne 7, 3) := by decide +kernel
theorem c191_30 : qcd 191 30 = some (.iconst 1, 1) := by decide +kernel
theorem c191_31 : qcd 191 31 = some (.goto 4, 3) := by decide +kernel
theorem c191_34 : qcd 191 34 = some (.iconst 0, 1) := by decide +kernel
theorem c191_35 : qcd 191 35 = some (.istore 5, 2) := by decide +kernel
theorem c191_37 : qcd 191 37 = some (.iload_n 2, 1) := by decide +kernel
theorem c191_38 : qcd 191 38 = some (.iconst 1, 1) := by decide +kernel
theorem c191_39 : qcd 191 39 = some (.iload 4, 2) := by decide +kernel
theorem c191_41 : qcd 191 41 = some (.ishl, 1) := by decide +kernel
theorem c191_42 : qcd 191 42 = some (.ior, 1) := by decide +kernel
theorem c191_43 : qcd 191 43 = some (.istore 6, 2) := by decide +kernel
theorem c191_45 : qcd 191 45 = some (.iload 6, 2) := by decide +kernel
theorem c191_47 : qcd 191 47 = some (.iload_n 2, 1) := by decide +kernel
theorem c191_48 : qcd 191 48 = some (.if_icmp .eq 19, 3) := by decide +kernel
theorem c191_51 : qcd 191 51 = some (.iload 5, 2) := by decide +kernel
theorem c191_53 : qcd 191 53 = some (.ifCond .eq 14, 3) := by decide +kernel
theorem c191_56 : qcd 191 56 = some (.aload_n 0, 1) := by decide +kernel
theorem c191_57 : qcd 191 57 = some (.getfield 22, 3) := by decide +kernel
theorem c191_60 : qcd 191 60 = some (.iload 6, 2) := by decide +kernel
theorem c191_62 : qcd 191 62 = some (.iaload, 1) := by decide +kernel
theorem c191_63 : qcd 191 63 = some (.iconst (-1), 1) := by decide +kernel
theorem c191_64 : qcd 191 64 = some (.if_icmp .ne 5, 3) := by decide +kernel
theorem c191_67 : qcd 191 67 = some (.iconst (-1), 1) := by decide +kernel
theorem c191_68 : qcd 191 68 = some (.ireturn, 1) := by decide +kernel
theorem c191_69 : qcd 191 69 = some (.aload_n 0, 1) := by decide +kernel
theorem c191_70 : qcd 191 70 = some (.getfield 15, 3) := by decide +kernel
theorem c191_73 : qcd 191 73 = some (.iload 4, 2) := by decide +kernel
theorem c191_75 : qcd 191 75 = some (.iaload, 1) := by decide +kernel
theorem c191_76 : qcd 191 76 = some (.aload_n 0, 1) := by decide +kernel
theorem c191_77 : qcd 191 77 = some (.getfield 25, 3) := by decide +kernel
theorem c191_80 : qcd 191 80 = some (.iload_n 2, 1) := by decide +kernel
theorem c191_81 : qcd 191 81 = some (.iaload, 1) := by decide +kernel
theorem c191_82 : qcd 191 82 = some (.imul, 1) := by decide +kernel
theorem c191_83 : qcd 191 83 = some (.aload_n 0, 1) := by decide +kernel
theorem c191_84 : qcd 191 84 = some (.getfield 22, 3) := by decide +kernel
theorem c191_87 : qcd 191 87 = some (.iload 6, 2) := by decide +kernel
theorem c191_89 : qcd 191 89 = some (.iaload, 1) := by decide +kernel
theorem c191_90 : qcd 191 90 = some (.iadd, 1) := by decide +kernel
theorem c191_91 : qcd 191 91 = some (.ireturn, 1) := by decide +kernel
theorem c192_0 : qcd 192 0 = some (.aload_n 1, 1) := by decide +kernel
theorem c192_1 : qcd 192 1 = some (.aload_n 2, 1) := by decide +kernel
theorem c192_2 : qcd 192 2 = some (.iconst 1, 1) := by decide +kernel
theorem c192_3 : qcd 192 3 = some (.aload_n 0, 1) := by decide +kernel
theorem c192_4 : qcd 192 4 = some (.getfield 28, 3) := by decide +kernel
theorem c192_7 : qcd 192 7 = some (.invokevirtual 31, 3) := by decide +kernel
theorem c192_10 : qcd 192 10 = some (.iconst 1, 1) := by decide +kernel
theorem c192_11 : qcd 192 11 = some (.aload_n 1, 1) := by decide +kernel
theorem c192_12 : qcd 192 12 = some (.getfield 37, 3) := by decide +kernel
theorem c192_15 : qcd 192 15 = some (.ishl, 1) := by decide +kernel
theorem c192_16 : qcd 192 16 = some (.iconst 1, 1) := by decide +kernel
theorem c192_17 : qcd 192 17 = some (.isub, 1) := by decide +kernel
theorem c192_18 : qcd 192 18 = some (.istore_n 3, 1) := by decide +kernel
theorem c192_19 : qcd 192 19 = some (.aload_n 0, 1) := by decide +kernel
theorem c192_20 : qcd 192 20 = some (.getfield 22, 3) := by decide +kernel
theorem c192_23 : qcd 192 23 = some (.iload_n 3, 1) := by decide +kernel
theorem c192_24 : qcd 192 24 = some (.iconst 0, 1) := by decide +kernel
theorem c192_25 : qcd 192 25 = some (.iastore, 1) := by decide +kernel
theorem c192_26 : qcd 192 26 = some (.iload_n 3, 1) := by decide +kernel
theorem c192_27 : qcd 192 27 = some (.iconst 1, 1) := by decide +kernel
theorem c192_28 : qcd 192 28 = some (.isub, 1) := by decide +kernel
theorem c192_29 : qcd 192 29 = some (.istore 4, 2) := by decide +kernel
theorem c192_31 : qcd 192 31 = some (.iload 4, 2) := by decide +kernel
theorem c192_33 : qcd 192 33 = some (.ifCond .lt 38, 3) := by decide +kernel
theorem c192_36 : qcd 192 36 = some (.aload_n 0, 1) := by decide +kernel
theorem c192_37 : qcd 192 37 = some (.getfield 25, 3) := by decide +kernel
theorem c192_40 : qcd 192 40 = some (.iload 4, 2) := by decide +kernel
theorem c192_42 : qcd 192 42 = some (.aload_n 0, 1) := by decide +kernel
theorem c192_43 : qcd 192 43 = some (.aload_n 1, 1) := by decide +kernel
theorem c192_44 : qcd 192 44 = some (.aload_n 2, 1) := by decide +kernel
theorem c192_45 : qcd 192 45 = some (.iload 4, 2) := by decide +kernel
theorem c192_47 : qcd 192 47 = some (.invokevirtual 41, 3) := by decide +kernel
theorem c192_50 : qcd 192 50 = some (.iastore, 1) := by decide +kernel
theorem c192_51 : qcd 192 51 = some (.aload_n 0, 1) := by decide +kernel
theorem c192_52 : qcd 192 52 = some (.getfield 22, 3) := by decide +kernel
theorem c192_55 : qcd 192 55 = some (.iload 4, 2) := by decide +kernel
theorem c192_57 : qcd 192 57 = some (.aload_n 0, 1) := by decide +kernel
theorem c192_58 : qcd 192 58 = some (.aload_n 1, 1) := by decide +kernel
theorem c192_59 : qcd 192 59 = some (.iload 4, 2) := by decide +kernel
theorem c192_61 : qcd 192 61 = some (.invokevirtual 45, 3) := by decide +kernel
theorem c192_64 : qcd 192 64 = some (.iastore, 1) := by decide +kernel
theorem c192_65 : qcd 192 65 = some (.iinc 4 (-1), 3) := by decide +kernel
theorem c192_68 : qcd 192 68 = some (.goto (-37), 3) := by decide +kernel
theorem c192_71 : qcd 192 71 = some (.aload_n 0, 1) := by decide +kernel
theorem c192_72 : qcd 192 72 = some (.getfield 22, 3) := by decide +kernel
theorem c192_75 : qcd 192 75 = some (.iconst 0, 1) := by decide +kernel
theorem c192_76 : qcd 192 76 = some (.iaload, 1) := by decide +kernel
theorem c192_77 : qcd 192 77 = some (.iconst (-1), 1) := by decide +kernel
theorem c192_78 : qcd 192 78 = some (.if_icmp .ne 5, 3) := by decide +kernel
theorem c192_81 : qcd 192 81 = some (.iconst 0, 1) := by decide +kernel
theorem c192_82 : qcd 192 82 = some (.ireturn, 1) := by decide +kernel
theorem c192_83 : qcd 192 83 = some (.aload_n 0, 1) := by decide +kernel
theorem c192_84 : qcd 192 84 = some (.aload_n 1, 1) := by decide +kernel
theorem c192_85 : qcd 192 85 = some (.invokevirtual 49, 3) := by decide +kernel
theorem c192_88 : qcd 192 88 = some (.iconst 1, 1) := by decide +kernel
theorem c192_89 : qcd 192 89 = some (.ireturn, 1) := by decide +kernel
theorem c193_0 : qcd 193 0 = some (.aload_n 0, 1) := by decide +kernel
theorem c193_1 : qcd 193 1 = some (.invokespecial 3, 3) := by decide +kernel
theorem c193_4 : qcd 193 4 = some (.aload_n 0, 1) := by decide +kernel
theorem c193_5 : qcd 193 5 = some (.bipush 9, 2) := by decide +kernel
theorem c193_7 : qcd 193 7 = some (.newarray .boolean, 2) := by decide +kernel
theorem c193_9 : qcd 193 9 = some (.putfield 9, 3) := by decide +kernel
theorem c193_12 : qcd 193 12 = some (.aload_n 0, 1) := by decide +kernel
theorem c193_13 : qcd 193 13 = some (.bipush 9, 2) := by decide +kernel
theorem c193_15 : qcd 193 15 = some (.newarray .int, 2) := by decide +kernel
theorem c193_17 : qcd 193 17 = some (.dup, 1) := by decide +kernel
theorem c193_18 : qcd 193 18 = some (.iconst 0, 1) := by decide +kernel
theorem c193_19 : qcd 193 19 = some (.bipush 10, 2) := by decide +kernel
theorem c193_21 : qcd 193 21 = some (.iastore, 1) := by decide +kernel
theorem c193_22 : qcd 193 22 = some (.dup, 1) := by decide +kernel
theorem c193_23 : qcd 193 23 = some (.iconst 1, 1) := by decide +kernel
theorem c193_24 : qcd 193 24 = some (.bipush 10, 2) := by decide +kernel
theorem c193_26 : qcd 193 26 = some (.iastore, 1) := by decide +kernel
theorem c193_27 : qcd 193 27 = some (.dup, 1) := by decide +kernel
theorem c193_28 : qcd 193 28 = some (.iconst 2, 1) := by decide +kernel
theorem c193_29 : qcd 193 29 = some (.bipush 10, 2) := by decide +kernel
theorem c193_31 : qcd 193 31 = some (.iastore, 1) := by decide +kernel
theorem c193_32 : qcd 193 32 = some (.dup, 1) := by decide +kernel
theorem c193_33 : qcd 193 33 = some (.iconst 3, 1) := by decide +kernel
theorem c193_34 : qcd 193 34 = some (.bipush 10, 2) := by decide +kernel
theorem c193_36 : qcd 193 36 = some (.iastore, 1) := by decide +kernel
theorem c193_37 : qcd 193 37 = some (.dup, 1) := by decide +kernel
theorem c193_38 : qcd 193 38 = some (.iconst 4, 1) := by decide +kernel
theorem c193_39 : qcd 193 39 = some (.bipush 10, 2) := by decide +kernel
theorem c193_41 : qcd 193 41 = some (.iastore, 1) := by decide +kernel
theorem c193_42 : qcd 193 42 = some (.dup, 1) := by decide +kernel
theorem c193_43 : qcd 193 43 = some (.iconst 5, 1) := by decide +kernel
theorem c193_44 : qcd 193 44 = some (.bipush 10, 2) := by decide +kernel
theorem c193_46 : qcd 193 46 = some (.iastore, 1) := by decide +kernel
theorem c193_47 : qcd 193 47 = some (.dup, 1) := by decide +kernel
theorem c193_48 : qcd 193 48 = some (.bipush 6, 2) := by decide +kernel
theorem c193_50 : qcd 193 50 = some (.bipush 10, 2) := by decide +kernel
theorem c193_52 : qcd 193 52 = some (.iastore, 1) := by decide +kernel
theorem c193_53 : qcd 193 53 = some (.dup, 1) := by decide +kernel
theorem c193_54 : qcd 193 54 = some (.bipush 7, 2) := by decide +kernel
theorem c193_56 : qcd 193 56 = some (.bipush 10, 2) := by decide +kernel
theorem c193_58 : qcd 193 58 = some (.iastore, 1) := by decide +kernel
theorem c193_59 : qcd 193 59 = some (.dup, 1) := by decide +kernel
theorem c193_60 : qcd 193 60 = some (.bipush 8, 2) := by decide +kernel
theorem c193_62 : qcd 193 62 = some (.bipush 10, 2) := by decide +kernel
theorem c193_64 : qcd 193 64 = some (.iastore, 1) := by decide +kernel
theorem c193_65 : qcd 193 65 = some (.putfield 15, 3) := by decide +kernel
theorem c193_68 : qcd 193 68 = some (.aload_n 0, 1) := by decide +kernel
theorem c193_69 : qcd 193 69 = some (.bipush 9, 2) := by decide +kernel
theorem c193_71 : qcd 193 71 = some (.newarray .int, 2) := by decide +kernel
theorem c193_73 : qcd 193 73 = some (.putfield 19, 3) := by decide +kernel
theorem c193_76 : qcd 193 76 = some (.aload_n 0, 1) := by decide +kernel
theorem c193_77 : qcd 193 77 = some (.sipush 512, 3) := by decide +kernel
theorem c193_80 : qcd 193 80 = some (.newarray .int, 2) := by decide +kernel
theorem c193_82 : qcd 193 82 = some (.putfield 22, 3) := by decide +kernel
theorem c193_85 : qcd 193 85 = some (.aload_n 0, 1) := by decide +kernel
theorem c193_86 : qcd 193 86 = some (.sipush 512, 3) := by decide +kernel
theorem c193_89 : qcd 193 89 = some (.newarray .int, 2) := by decide +kernel
theorem c193_91 : qcd 193 91 = some (.putfield 25, 3) := by decide +kernel
theorem c193_94 : qcd 193 94 = some (.aload_n 0, 1) := by decide +kernel
theorem c193_95 : qcd 193 95 = some (.bipush 8, 2) := by decide +kernel
theorem c193_97 : qcd 193 97 = some (.newarray .int, 2) := by decide +kernel
theorem c193_99 : qcd 193 99 = some (.putfield 28, 3) := by decide +kernel
theorem c193_102 : qcd 193 102 = some (.return_, 1) := by decide +kernel
theorem c194_0 : qcd 194 0 = some (.iconst (-1), 1) := by decide +kernel
theorem c194_1 : qcd 194 1 = some (.istore_n 3, 1) := by decide +kernel
theorem c194_2 : qcd 194 2 = some (.aload_n 0, 1) := by decide +kernel
theorem c194_3 : qcd 194 3 = some (.aload_n 1, 1) := by decide +kernel
theorem c194_4 : qcd 194 4 = some (.iload_n 2, 1) := by decide +kernel
theorem c194_5 : qcd 194 5 = some (.invokevirtual 53, 3) := by decide +kernel
theorem c194_8 : qcd 194 8 = some (.istore 4, 2) := by decide +kernel
theorem c194_10 : qcd 194 10 = some (.iconst 0, 1) := by decide +kernel
theorem c194_11 : qcd 194 11 = some (.istore 5, 2) := by decide +kernel
theorem c194_13 : qcd 194 13 = some (.iload 5, 2) := by decide +kernel
theorem c194_15 : qcd 194 15 = some (.aload_n 1, 1) := by decide +kernel
theorem c194_16 : qcd 194 16 = some (.getfield 37, 3) := by decide +kernel
theorem c194_19 : qcd 194 19 = some (.if_icmp .ge 41, 3) := by decide +kernel
theorem c194_22 : qcd 194 22 = some (.aload_n 0, 1) := by decide +kernel
theorem c194_23 : qcd 194 23 = some (.aload_n 1, 1) := by decide +kernel
theorem c194_24 : qcd 194 24 = some (.iload_n 2, 1) := by decide +kernel
theorem c194_25 : qcd 194 25 = some (.iload 4, 2) := by decide +kernel
theorem c194_27 : qcd 194 27 = some (.iload 5, 2) := by decide +kernel
theorem c194_29 : qcd 194 29 = some (.invokevirtual 56, 3) := by decide +kernel
theorem c194_32 : qcd 194 32 = some (.istore 6, 2) := by decide +kernel
theorem c194_34 : qcd 194 34 = some (.iload 6, 2) := by decide +kernel
theorem c194_36 : qcd 194 36 = some (.iconst (-1), 1) := by decide +kernel
theorem c194_37 : qcd 194 37 = some (.if_icmp .eq 17, 3) := by decide +kernel
theorem c194_40 : qcd 194 40 = some (.iload_n 3, 1) := by decide +kernel
theorem c194_41 : qcd 194 41 = some (.iconst (-1), 1) := by decide +kernel
theorem c194_42 : qcd 194 42 = some (.if_icmp .eq 9, 3) := by decide +kernel
theorem c194_45 : qcd 194 45 = some (.iload 6, 2) := by decide +kernel
theorem c194_47 : qcd 194 47 = some (.iload_n 3, 1) := by decide +kernel
theorem c194_48 : qcd 194 48 = some (.if_icmp .ge 6, 3) := by decide +kernel
theorem c194_51 : qcd 194 51 = some (.iload 6, 2) := by decide +kernel
theorem c194_53 : qcd 194 53 = some (.istore_n 3, 1) := by decide +kernel
theorem c194_54 : qcd 194 54 = some (.iinc 5 1, 3) := by decide +kernel
theorem c194_57 : qcd 194 57 = some (.goto (-44), 3) := by decide +kernel
theorem c194_60 : qcd 194 60 = some (.iload_n 3, 1) := by decide +kernel
theorem c194_61 : qcd 194 61 = some (.ireturn, 1) := by decide +kernel
theorem c195_0 : qcd 195 0 = some (.iconst 0, 1) := by decide +kernel
theorem c195_1 : qcd 195 1 = some (.istore_n 3, 1) := by decide +kernel
theorem c195_2 : qcd 195 2 = some (.iconst 0, 1) := by decide +kernel
theorem c195_3 : qcd 195 3 = some (.istore 4, 2) := by decide +kernel
theorem c195_5 : qcd 195 5 = some (.iload 4, 2) := by decide +kernel
theorem c195_7 : qcd 195 7 = some (.aload_n 1, 1) := by decide +kernel
theorem c195_8 : qcd 195 8 = some (.getfield 37, 3) := by decide +kernel
theorem c195_11 : qcd 195 11 = some (.if_icmp .ge 36, 3) := by decide +kernel
theorem c195_14 : qcd 195 14 = some (.iload_n 2, 1) := by decide +kernel
theorem c195_15 : qcd 195 15 = some (.iload 4, 2) := by decide +kernel
theorem c195_17 : qcd 195 17 = some (.ishr, 1) := by decide +kernel
theorem c195_18 : qcd 195 18 = some (.iconst 1, 1) := by decide +kernel
theorem c195_19 : qcd 195 19 = some (.iand, 1) := by decide +kernel
theorem c195_20 : qcd 195 20 = some (.iconst 1, 1) := by decide +kernel
theorem c195_21 : qcd 195 21 = some (.if_icmp .ne 20, 3) := by decide +kernel
theorem c195_24 : qcd 195 24 = some (.iload_n 3, 1) := by decide +kernel
theorem c195_25 : qcd 195 25 = some (.iconst 1, 1) := by decide +kernel
theorem c195_26 : qcd 195 26 = some (.aload_n 0, 1) := by decide +kernel
theorem c195_27 : qcd 195 27 = some (.getfield 28, 3) := by decide +kernel
theorem c195_30 : qcd 195 30 = some (.aload_n 1, 1) := by decide +kernel
theorem c195_31 : qcd 195 31 = some (.getfield 60, 3) := by decide +kernel
theorem c195_34 : qcd 195 34 = some (.iload 4, 2) := by decide +kernel
theorem c195_36 : qcd 195 36 = some (.iaload, 1) := by decide +kernel
theorem c195_37 : qcd 195 37 = some (.iaload, 1) := by decide +kernel
theorem c195_38 : qcd 195 38 = some (.ishl, 1) := by decide +kernel
theorem c195_39 : qcd 195 39 = some (.ior, 1) := by decide +kernel
theorem c195_40 : qcd 195 40 = some (.istore_n 3, 1) := by decide +kernel
theorem c195_41 : qcd 195 41 = some (.iinc 4 1, 3) := by decide +kernel
theorem c195_44 : qcd 195 44 = some (.goto (-39), 3) := by decide +kernel
theorem c195_47 : qcd 195 47 = some (.iload_n 3, 1) := by decide +kernel
theorem c195_48 : qcd 195 48 = some (.ireturn, 1) := by decide +kernel
theorem c196_0 : qcd 196 0 = some (.iconst 0, 1) := by decide +kernel
theorem c196_1 : qcd 196 1 = some (.istore_n 2, 1) := by decide +kernel
theorem c196_2 : qcd 196 2 = some (.iconst 0, 1) := by decide +kernel
theorem c196_3 : qcd 196 3 = some (.istore_n 3, 1) := by decide +kernel
theorem c196_4 : qcd 196 4 = some (.iload_n 3, 1) := by decide +kernel
theorem c196_5 : qcd 196 5 = some (.aload_n 1, 1) := by decide +kernel
theorem c196_6 : qcd 196 6 = some (.getfield 37, 3) := by decide +kernel
theorem c196_9 : qcd 196 9 = some (.if_icmp .ge 72, 3) := by decide +kernel
theorem c196_12 : qcd 196 12 = some (.aload_n 0, 1) := by decide +kernel
theorem c196_13 : qcd 196 13 = some (.aload_n 1, 1) := by decide +kernel
theorem c196_14 : qcd 196 14 = some (.iload_n 2, 1) := by decide +kernel
theorem c196_15 : qcd 196 15 = some (.invokevirtual 53, 3) := by decide +kernel
theorem c196_18 : qcd 196 18 = some (.istore 4, 2) := by decide +kernel
theorem c196_20 : qcd 196 20 = some (.iconst 0, 1) := by decide +kernel
theorem c196_21 : qcd 196 21 = some (.istore 5, 2) := by decide +kernel
theorem c196_23 : qcd 196 23 = some (.iload 5, 2) := by decide +kernel
theorem c196_25 : qcd 196 25 = some (.aload_n 1, 1) := by decide +kernel
theorem c196_26 : qcd 196 26 = some (.getfield 37, 3) := by decide +kernel
theorem c196_29 : qcd 196 29 = some (.if_icmp .ge 46, 3) := by decide +kernel
theorem c196_32 : qcd 196 32 = some (.aload_n 0, 1) := by decide +kernel
theorem c196_33 : qcd 196 33 = some (.aload_n 1, 1) := by decide +kernel
theorem c196_34 : qcd 196 34 = some (.iload_n 2, 1) := by decide +kernel
theorem c196_35 : qcd 196 35 = some (.iload 4, 2) := by decide +kernel
theorem c196_37 : qcd 196 37 = some (.iload 5, 2) := by decide +kernel
theorem c196_39 : qcd 196 39 = some (.invokevirtual 56, 3) := by decide +kernel
theorem c196_42 : qcd 196 42 = some (.aload_n 0, 1) := by decide +kernel
theorem c196_43 : qcd 196 43 = some (.getfield 22, 3) := by decide +kernel
theorem c196_46 : qcd 196 46 = some (.iload_n 2, 1) := by decide +kernel
theorem c196_47 : qcd 196 47 = some (.iaload, 1) := by decide +kernel
theorem c196_48 : qcd 196 48 = some (.if_icmp .ne 21, 3) := by decide +kernel
theorem c196_51 : qcd 196 51 = some (.aload_n 0, 1) := by decide +kernel
theorem c196_52 : qcd 196 52 = some (.getfield 19, 3) := by decide +kernel
theorem c196_55 : qcd 196 55 = some (.iload_n 3, 1) := by decide +kernel
theorem c196_56 : qcd 196 56 = some (.iload 5, 2) := by decide +kernel
theorem c196_58 : qcd 196 58 = some (.iastore, 1) := by decide +kernel
theorem c196_59 : qcd 196 59 = some (.iload_n 2, 1) := by decide +kernel
theorem c196_60 : qcd 196 60 = some (.iconst 1, 1) := by decide +kernel
theorem c196_61 : qcd 196 61 = some (.iload 5, 2) := by decide +kernel
theorem c196_63 : qcd 196 63 = some (.ishl, 1) := by decide +kernel
theorem c196_64 : qcd 196 64 = some (.ior, 1) := by decide +kernel
theorem c196_65 : qcd 196 65 = some (.istore_n 2, 1) := by decide +kernel
theorem c196_66 : qcd 196 66 = some (.goto 9, 3) := by decide +kernel
theorem c196_69 : qcd 196 69 = some (.iinc 5 1, 3) := by decide +kernel
theorem c196_72 : qcd 196 72 = some (.goto (-49), 3) := by decide +kernel
theorem c196_75 : qcd 196 75 = some (.iinc 3 1, 3) := by decide +kernel
theorem c196_78 : qcd 196 78 = some (.goto (-74), 3) := by decide +kernel
theorem c196_81 : qcd 196 81 = some (.return_, 1) := by decide +kernel
theorem c197_0 : qcd 197 0 = some (.iconst 0, 1) := by decide +kernel
theorem c197_1 : qcd 197 1 = some (.istore 4, 2) := by decide +kernel
theorem c197_3 : qcd 197 3 = some (.iconst 0, 1) := by decide +kernel
theorem c197_4 : qcd 197 4 = some (.istore 5, 2) := by decide +kernel
theorem c197_6 : qcd 197 6 = some (.iload 5, 2) := by decide +kernel
theorem c197_8 : qcd 197 8 = some (.aload_n 1, 1) := by decide +kernel
theorem c197_9 : qcd 197 9 = some (.getfield 37, 3) := by decide +kernel
theorem c197_12 : qcd 197 12 = some (.if_icmp .ge 35, 3) := by decide +kernel
theorem c197_15 : qcd 197 15 = some (.iload 4, 2) := by decide +kernel
theorem c197_17 : qcd 197 17 = some (.iload_n 3, 1) := by decide +kernel
theorem c197_18 : qcd 197 18 = some (.iload 5, 2) := by decide +kernel
theorem c197_20 : qcd 197 20 = some (.ishr, 1) := by decide +kernel
theorem c197_21 : qcd 197 21 = some (.iconst 1, 1) := by decide +kernel
theorem c197_22 : qcd 197 22 = some (.iand, 1) := by decide +kernel
theorem c197_23 : qcd 197 23 = some (.iconst 1, 1) := by decide +kernel
theorem c197_24 : qcd 197 24 = some (.if_icmp .ne 13, 3) := by decide +kernel
theorem c197_27 : qcd 197 27 = some (.aload_n 1, 1) := by decide +kernel
theorem c197_28 : qcd 197 28 = some (.getfield 63, 3) := by decide +kernel
theorem c197_31 : qcd 197 31 = some (.iload 5, 2) := by decide +kernel
theorem c197_33 : qcd 197 33 = some (.iaload, 1) := by decide +kernel
theorem c197_34 : qcd 197 34 = some (.goto 4, 3) := by decide +kernel
theorem c197_37 : qcd 197 37 = some (.iconst 0, 1) := by decide +kernel
theorem c197_38 : qcd 197 38 = some (.iadd, 1) := by decide +kernel
theorem c197_39 : qcd 197 39 = some (.istore 4, 2) := by decide +kernel
theorem c197_41 : qcd 197 41 = some (.iinc 5 1, 3) := by decide +kernel
theorem c197_44 : qcd 197 44 = some (.goto (-38), 3) := by decide +kernel
theorem c197_47 : qcd 197 47 = some (.aload_n 0, 1) := by decide +kernel
theorem c197_48 : qcd 197 48 = some (.aload_n 1, 1) := by decide +kernel
theorem c197_49 : qcd 197 49 = some (.iload_n 3, 1) := by decide +kernel
theorem c197_50 : qcd 197 50 = some (.invokevirtual 53, 3) := by decide +kernel
theorem c197_53 : qcd 197 53 = some (.istore 5, 2) := by decide +kernel
theorem c197_55 : qcd 197 55 = some (.iconst 0, 1) := by decide +kernel
theorem c197_56 : qcd 197 56 = some (.istore 6, 2) := by decide +kernel
theorem c197_58 : qcd 197 58 = some (.iconst 0, 1) := by decide +kernel
theorem c197_59 : qcd 197 59 = some (.istore 7, 2) := by decide +kernel
theorem c197_61 : qcd 197 61 = some (.iconst 0, 1) := by decide +kernel
theorem c197_62 : qcd 197 62 = some (.istore 8, 2) := by decide +kernel
theorem c197_64 : qcd 197 64 = some (.iload 8, 2) := by decide +kernel
theorem c197_66 : qcd 197 66 = some (.aload_n 1, 1) := by decide +kernel
theorem c197_67 : qcd 197 67 = some (.getfield 66, 3) := by decide +kernel
theorem c197_70 : qcd 197 70 = some (.if_icmp .ge 67, 3) := by decide +kernel
theorem c197_73 : qcd 197 73 = some (.aload_n 1, 1) := by decide +kernel
theorem c197_74 : qcd 197 74 = some (.getfield 69, 3) := by decide +kernel
theorem c197_77 : qcd 197 77 = some (.iload 8, 2) := by decide +kernel
theorem c197_79 : qcd 197 79 = some (.iaload, 1) := by decide +kernel
theorem c197_80 : qcd 197 80 = some (.istore 9, 2) := by decide +kernel
theorem c197_82 : qcd 197 82 = some (.aload_n 2, 1) := by decide +kernel
theorem c197_83 : qcd 197 83 = some (.getfield 72, 3) := by decide +kernel
theorem c197_86 : qcd 197 86 = some (.iload 9, 2) := by decide +kernel
theorem c197_88 : qcd 197 88 = some (.iaload, 1) := by decide +kernel
theorem c197_89 : qcd 197 89 = some (.istore 10, 2) := by decide +kernel
theorem c197_91 : qcd 197 91 = some (.iload 7, 2) := by decide +kernel
theorem c197_93 : qcd 197 93 = some (.iload 10, 2) := by decide +kernel
theorem c197_95 : qcd 197 95 = some (.iadd, 1) := by decide +kernel
theorem c197_96 : qcd 197 96 = some (.istore 7, 2) := by decide +kernel
theorem c197_98 : qcd 197 98 = some (.iload 5, 2) := by decide +kernel
theorem c197_100 : qcd 197 100 = some (.aload_n 0, 1) := by decide +kernel
theorem c197_101 : qcd 197 101 = some (.getfield 28, 3) := by decide +kernel
theorem c197_104 : qcd 197 104 = some (.iload 9, 2) := by decide +kernel
theorem c197_106 : qcd 197 106 = some (.iaload, 1) := by decide +kernel
theorem c197_107 : qcd 197 107 = some (.ishr, 1) := by decide +kernel
theorem c197_108 : qcd 197 108 = some (.iconst 1, 1) := by decide +kernel
theorem c197_109 : qcd 197 109 = some (.iand, 1) := by decide +kernel
theorem c197_110 : qcd 197 110 = some (.iconst 1, 1) := by decide +kernel
theorem c197_111 : qcd 197 111 = some (.if_icmp .ne 20, 3) := by decide +kernel
theorem c197_114 : qcd 197 114 = some (.iload 6, 2) := by decide +kernel
theorem c197_116 : qcd 197 116 = some (.iload 10, 2) := by decide +kernel
theorem c197_118 : qcd 197 118 = some (.iadd, 1) := by decide +kernel
theorem c197_119 : qcd 197 119 = some (.iload 4, 2) := by decide +kernel
theorem c197_121 : qcd 197 121 = some (.if_icmp .gt 10, 3) := by decide +kernel
theorem c197_124 : qcd 197 124 = some (.iload 6, 2) := by decide +kernel
theorem c197_126 : qcd 197 126 = some (.iload 10, 2) := by decide +kernel
theorem c197_128 : qcd 197 128 = some (.iadd, 1) := by decide +kernel
theorem c197_129 : qcd 197 129 = some (.istore 6, 2) := by decide +kernel
theorem c197_131 : qcd 197 131 = some (.iinc 8 1, 3) := by decide +kernel
theorem c197_134 : qcd 197 134 = some (.goto (-70), 3) := by decide +kernel
theorem c197_137 : qcd 197 137 = some (.iload 7, 2) := by decide +kernel
theorem c197_139 : qcd 197 139 = some (.iload 6, 2) := by decide +kernel
theorem c197_141 : qcd 197 141 = some (.isub, 1) := by decide +kernel
theorem c197_142 : qcd 197 142 = some (.ireturn, 1) := by decide +kernel
theorem c198_0 : qcd 198 0 = some (.aload_n 0, 1) := by decide +kernel
theorem c198_1 : qcd 198 1 = some (.getfield 18, 3) := by decide +kernel
theorem c198_4 : qcd 198 4 = some (.aload_n 0, 1) := by decide +kernel
theorem c198_5 : qcd 198 5 = some (.getfield 35, 3) := by decide +kernel
theorem c198_8 : qcd 198 8 = some (.iload_n 1, 1) := by decide +kernel
theorem c198_9 : qcd 198 9 = some (.iastore, 1) := by decide +kernel
theorem c198_10 : qcd 198 10 = some (.aload_n 0, 1) := by decide +kernel
theorem c198_11 : qcd 198 11 = some (.getfield 21, 3) := by decide +kernel
theorem c198_14 : qcd 198 14 = some (.aload_n 0, 1) := by decide +kernel
theorem c198_15 : qcd 198 15 = some (.getfield 35, 3) := by decide +kernel
theorem c198_18 : qcd 198 18 = some (.iload_n 2, 1) := by decide +kernel
theorem c198_19 : qcd 198 19 = some (.iastore, 1) := by decide +kernel
theorem c198_20 : qcd 198 20 = some (.aload_n 0, 1) := by decide +kernel
theorem c198_21 : qcd 198 21 = some (.dup, 1) := by decide +kernel
theorem c198_22 : qcd 198 22 = some (.getfield 35, 3) := by decide +kernel
theorem c198_25 : qcd 198 25 = some (.iconst 1, 1) := by decide +kernel
theorem c198_26 : qcd 198 26 = some (.iadd, 1) := by decide +kernel
theorem c198_27 : qcd 198 27 = some (.putfield 35, 3) := by decide +kernel
theorem c198_30 : qcd 198 30 = some (.aload_n 0, 1) := by decide +kernel
theorem c198_31 : qcd 198 31 = some (.getfield 35, 3) := by decide +kernel
theorem c198_34 : qcd 198 34 = some (.iconst 1, 1) := by decide +kernel
theorem c198_35 : qcd 198 35 = some (.isub, 1) := by decide +kernel
theorem c198_36 : qcd 198 36 = some (.ireturn, 1) := by decide +kernel
theorem c199_0 : qcd 199 0 = some (.aload_n 0, 1) := by decide +kernel
theorem c199_1 : qcd 199 1 = some (.getfield 24, 3) := by decide +kernel
theorem c199_4 : qcd 199 4 = some (.aload_n 0, 1) := by decide +kernel
theorem c199_5 : qcd 199 5 = some (.getfield 39, 3) := by decide +kernel
theorem c199_8 : qcd 199 8 = some (.iload_n 1, 1) := by decide +kernel
theorem c199_9 : qcd 199 9 = some (.iastore, 1) := by decide +kernel
theorem c199_10 : qcd 199 10 = some (.aload_n 0, 1) := by decide +kernel
theorem c199_11 : qcd 199 11 = some (.getfield 27, 3) := by decide +kernel
theorem c199_14 : qcd 199 14 = some (.aload_n 0, 1) := by decide +kernel
theorem c199_15 : qcd 199 15 = some (.getfield 39, 3) := by decide +kernel
theorem c199_18 : qcd 199 18 = some (.iload_n 2, 1) := by decide +kernel
theorem c199_19 : qcd 199 19 = some (.iastore, 1) := by decide +kernel
theorem c199_20 : qcd 199 20 = some (.aload_n 0, 1) := by decide +kernel
theorem c199_21 : qcd 199 21 = some (.dup, 1) := by decide +kernel
theorem c199_22 : qcd 199 22 = some (.getfield 39, 3) := by decide +kernel
theorem c199_25 : qcd 199 25 = some (.iconst 1, 1) := by decide +kernel
theorem c199_26 : qcd 199 26 = some (.iadd, 1) := by decide +kernel
theorem c199_27 : qcd 199 27 = some (.putfield 39, 3) := by decide +kernel
theorem c199_30 : qcd 199 30 = some (.return_, 1) := by decide +kernel
theorem c200_0 : qcd 200 0 = some (.iconst 0, 1) := by decide +kernel
theorem c200_1 : qcd 200 1 = some (.istore_n 1, 1) := by decide +kernel
theorem c200_2 : qcd 200 2 = some (.iload_n 1, 1) := by decide +kernel
theorem c200_3 : qcd 200 3 = some (.iconst 5, 1) := by decide +kernel
theorem c200_4 : qcd 200 4 = some (.if_icmp .ge 29, 3) := by decide +kernel
theorem c200_7 : qcd 200 7 = some (.aload_n 0, 1) := by decide +kernel
theorem c200_8 : qcd 200 8 = some (.getfield 32, 3) := by decide +kernel
theorem c200_11 : qcd 200 11 = some (.iload_n 1, 1) := by decide +kernel
theorem c200_12 : qcd 200 12 = some (.aaload, 1) := by decide +kernel
theorem c200_13 : qcd 200 13 = some (.ldc 48, 2) := by decide +kernel
theorem c200_15 : qcd 200 15 = some (.invokestatic 49, 3) := by decide +kernel
theorem c200_18 : qcd 200 18 = some (.aload_n 0, 1) := by decide +kernel
theorem c200_19 : qcd 200 19 = some (.getfield 32, 3) := by decide +kernel
theorem c200_22 : qcd 200 22 = some (.iload_n 1, 1) := by decide +kernel
theorem c200_23 : qcd 200 23 = some (.aaload, 1) := by decide +kernel
theorem c200_24 : qcd 200 24 = some (.iload_n 1, 1) := by decide +kernel
theorem c200_25 : qcd 200 25 = some (.iconst 0, 1) := by decide +kernel
theorem c200_26 : qcd 200 26 = some (.iastore, 1) := by decide +kernel
theorem c200_27 : qcd 200 27 = some (.iinc 1 1, 3) := by decide +kernel
theorem c200_30 : qcd 200 30 = some (.goto (-28), 3) := by decide +kernel
theorem c200_33 : qcd 200 33 = some (.iconst 0, 1) := by decide +kernel
theorem c200_34 : qcd 200 34 = some (.istore_n 1, 1) := by decide +kernel
theorem c200_35 : qcd 200 35 = some (.iload_n 1, 1) := by decide +kernel
theorem c200_36 : qcd 200 36 = some (.iconst 4, 1) := by decide +kernel
theorem c200_37 : qcd 200 37 = some (.if_icmp .ge 38, 3) := by decide +kernel
theorem c200_40 : qcd 200 40 = some (.aload_n 0, 1) := by decide +kernel
theorem c200_41 : qcd 200 41 = some (.getfield 32, 3) := by decide +kernel
theorem c200_44 : qcd 200 44 = some (.iconst 4, 1) := by decide +kernel
theorem c200_45 : qcd 200 45 = some (.aaload, 1) := by decide +kernel
theorem c200_46 : qcd 200 46 = some (.iload_n 1, 1) := by decide +kernel
theorem c200_47 : qcd 200 47 = some (.aload_n 0, 1) := by decide +kernel
theorem c200_48 : qcd 200 48 = some (.getfield 15, 3) := by decide +kernel
theorem c200_51 : qcd 200 51 = some (.iload_n 1, 1) := by decide +kernel
theorem c200_52 : qcd 200 52 = some (.iaload, 1) := by decide +kernel
theorem c200_53 : qcd 200 53 = some (.iastore, 1) := by decide +kernel
theorem c200_54 : qcd 200 54 = some (.aload_n 0, 1) := by decide +kernel
theorem c200_55 : qcd 200 55 = some (.getfield 32, 3) := by decide +kernel
theorem c200_58 : qcd 200 58 = some (.iload_n 1, 1) := by decide +kernel
theorem c200_59 : qcd 200 59 = some (.aaload, 1) := by decide +kernel
theorem c200_60 : qcd 200 60 = some (.iconst 4, 1) := by decide +kernel
theorem c200_61 : qcd 200 61 = some (.aload_n 0, 1) := by decide +kernel
theorem c200_62 : qcd 200 62 = some (.getfield 9, 3) := by decide +kernel
theorem c200_65 : qcd 200 65 = some (.iload_n 1, 1) := by decide +kernel
theorem c200_66 : qcd 200 66 = some (.iaload, 1) := by decide +kernel
theorem c200_67 : qcd 200 67 = some (.ineg, 1) := by decide +kernel
theorem c200_68 : qcd 200 68 = some (.iastore, 1) := by decide +kernel
theorem c200_69 : qcd 200 69 = some (.iinc 1 1, 3) := by decide +kernel
theorem c200_72 : qcd 200 72 = some (.goto (-37), 3) := by decide +kernel
theorem c200_75 : qcd 200 75 = some (.iconst 0, 1) := by decide +kernel
theorem c200_76 : qcd 200 76 = some (.istore_n 1, 1) := by decide +kernel
theorem c200_77 : qcd 200 77 = some (.iload_n 1, 1) := by decide +kernel
theorem c200_78 : qcd 200 78 = some (.aload_n 0, 1) := by decide +kernel
theorem c200_79 : qcd 200 79 = some (.getfield 39, 3) := by decide +kernel
theorem c200_82 : qcd 200 82 = some (.if_icmp .ge 75, 3) := by decide +kernel
theorem c200_85 : qcd 200 85 = some (.aload_n 0, 1) := by decide +kernel
theorem c200_86 : qcd 200 86 = some (.getfield 18, 3) := by decide +kernel
theorem c200_89 : qcd 200 89 = some (.aload_n 0, 1) := by decide +kernel
theorem c200_90 : qcd 200 90 = some (.getfield 24, 3) := by decide +kernel
theorem c200_93 : qcd 200 93 = some (.iload_n 1, 1) := by decide +kernel
theorem c200_94 : qcd 200 94 = some (.iaload, 1) := by decide +kernel
theorem c200_95 : qcd 200 95 = some (.iaload, 1) := by decide +kernel
theorem c200_96 : qcd 200 96 = some (.istore_n 2, 1) := by decide +kernel
theorem c200_97 : qcd 200 97 = some (.aload_n 0, 1) := by decide +kernel
theorem c200_98 : qcd 200 98 = some (.getfield 18, 3) := by decide +kernel
theorem c200_101 : qcd 200 101 = some (.aload_n 0, 1) := by decide +kernel
theorem c200_102 : qcd 200 102 = some (.getfield 27, 3) := by decide +kernel
theorem c200_105 : qcd 200 105 = some (.iload_n 1, 1) := by decide +kernel
theorem c200_106 : qcd 200 106 = some (.iaload, 1) := by decide +kernel
theorem c200_107 : qcd 200 107 = some (.iaload, 1) := by decide +kernel
theorem c200_108 : qcd 200 108 = some (.istore_n 3, 1) := by decide +kernel
theorem c200_109 : qcd 200 109 = some (.aload_n 0, 1) := by decide +kernel
theorem c200_110 : qcd 200 110 = some (.getfield 32, 3) := by decide +kernel
theorem c200_113 : qcd 200 113 = some (.iload_n 2, 1) := by decide +kernel
theorem c200_114 : qcd 200 114 = some (.aaload, 1) := by decide +kernel
theorem c200_115 : qcd 200 115 = some (.iload_n 3, 1) := by decide +kernel
theorem c200_116 : qcd 200 116 = some (.aload_n 0, 1) := by decide +kernel
theorem c200_117 : qcd 200 117 = some (.getfield 32, 3) := by decide +kernel
theorem c200_120 : qcd 200 120 = some (.iload_n 2, 1) := by decide +kernel
theorem c200_121 : qcd 200 121 = some (.aaload, 1) := by decide +kernel
theorem c200_122 : qcd 200 122 = some (.iload_n 3, 1) := by decide +kernel
theorem c200_123 : qcd 200 123 = some (.iaload, 1) := by decide +kernel
theorem c200_124 : qcd 200 124 = some (.aload_n 0, 1) := by decide +kernel
theorem c200_125 : qcd 200 125 = some (.getfield 21, 3) := by decide +kernel
theorem c200_128 : qcd 200 128 = some (.aload_n 0, 1) := by decide +kernel
theorem c200_129 : qcd 200 129 = some (.getfield 27, 3) := by decide +kernel
theorem c200_132 : qcd 200 132 = some (.iload_n 1, 1) := by decide +kernel
theorem c200_133 : qcd 200 133 = some (.iaload, 1) := by decide +kernel
theorem c200_134 : qcd 200 134 = some (.iaload, 1) := by decide +kernel
theorem c200_135 : qcd 200 135 = some (.aload_n 0, 1) := by decide +kernel
theorem c200_136 : qcd 200 136 = some (.getfield 21, 3) := by decide +kernel
theorem c200_139 : qcd 200 139 = some (.aload_n 0, 1) := by decide +kernel
theorem c200_140 : qcd 200 140 = some (.getfield 24, 3) := by decide +kernel
theorem c200_143 : qcd 200 143 = some (.iload_n 1, 1) := by decide +kernel
theorem c200_144 : qcd 200 144 = some (.iaload, 1) := by decide +kernel
theorem c200_145 : qcd 200 145 = some (.iaload, 1) := by decide +kernel
theorem c200_146 : qcd 200 146 = some (.isub, 1) := by decide +kernel
theorem c200_147 : qcd 200 147 = some (.invokestatic 55, 3) := by decide +kernel
theorem c200_150 : qcd 200 150 = some (.iastore, 1) := by decide +kernel
theorem c200_151 : qcd 200 151 = some (.iinc 1 1, 3) := by decide +kernel
theorem c200_154 : qcd 200 154 = some (.goto (-77), 3) := by decide +kernel
theorem c200_157 : qcd 200 157 = some (.return_, 1) := by decide +kernel
theorem c201_0 : qcd 201 0 = some (.iconst 0, 1) := by decide +kernel
theorem c201_1 : qcd 201 1 = some (.istore_n 1, 1) := by decide +kernel
theorem c201_2 : qcd 201 2 = some (.iload_n 1, 1) := by decide +kernel
theorem c201_3 : qcd 201 3 = some (.iconst 5, 1) := by decide +kernel
theorem c201_4 : qcd 201 4 = some (.if_icmp .ge 71, 3) := by decide +kernel
theorem c201_7 : qcd 201 7 = some (.iconst 0, 1) := by decide +kernel
theorem c201_8 : qcd 201 8 = some (.istore_n 2, 1) := by decide +kernel
theorem c201_9 : qcd 201 9 = some (.iload_n 2, 1) := by decide +kernel
theorem c201_10 : qcd 201 10 = some (.iconst 5, 1) := by decide +kernel
theorem c201_11 : qcd 201 11 = some (.if_icmp .ge 58, 3) := by decide +kernel
theorem c201_14 : qcd 201 14 = some (.iconst 0, 1) := by decide +kernel
theorem c201_15 : qcd 201 15 = some (.istore_n 3, 1) := by decide +kernel
theorem c201_16 : qcd 201 16 = some (.iload_n 3, 1) := by decide +kernel
theorem c201_17 : qcd 201 17 = some (.iconst 5, 1) := by decide +kernel
theorem c201_18 : qcd 201 18 = some (.if_icmp .ge 45, 3) := by decide +kernel
theorem c201_21 : qcd 201 21 = some (.aload_n 0, 1) := by decide +kernel
theorem c201_22 : qcd 201 22 = some (.getfield 32, 3) := by decide +kernel
theorem c201_25 : qcd 201 25 = some (.iload_n 2, 1) := by decide +kernel
theorem c201_26 : qcd 201 26 = some (.aaload, 1) := by decide +kernel
theorem c201_27 : qcd 201 27 = some (.iload_n 3, 1) := by decide +kernel
theorem c201_28 : qcd 201 28 = some (.aload_n 0, 1) := by decide +kernel
theorem c201_29 : qcd 201 29 = some (.getfield 32, 3) := by decide +kernel
theorem c201_32 : qcd 201 32 = some (.iload_n 2, 1) := by decide +kernel
theorem c201_33 : qcd 201 33 = some (.aaload, 1) := by decide +kernel
theorem c201_34 : qcd 201 34 = some (.iload_n 3, 1) := by decide +kernel
theorem c201_35 : qcd 201 35 = some (.iaload, 1) := by decide +kernel
theorem c201_36 : qcd 201 36 = some (.aload_n 0, 1) := by decide +kernel
theorem c201_37 : qcd 201 37 = some (.getfield 32, 3) := by decide +kernel
theorem c201_40 : qcd 201 40 = some (.iload_n 2, 1) := by decide +kernel
theorem c201_41 : qcd 201 41 = some (.aaload, 1) := by decide +kernel
theorem c201_42 : qcd 201 42 = some (.iload_n 1, 1) := by decide +kernel
theorem c201_43 : qcd 201 43 = some (.iaload, 1) := by decide +kernel
theorem c201_44 : qcd 201 44 = some (.aload_n 0, 1) := by decide +kernel
theorem c201_45 : qcd 201 45 = some (.getfield 32, 3) := by decide +kernel
theorem c201_48 : qcd 201 48 = some (.iload_n 1, 1) := by decide +kernel
theorem c201_49 : qcd 201 49 = some (.aaload, 1) := by decide +kernel
theorem c201_50 : qcd 201 50 = some (.iload_n 3, 1) := by decide +kernel
theorem c201_51 : qcd 201 51 = some (.iaload, 1) := by decide +kernel
theorem c201_52 : qcd 201 52 = some (.iadd, 1) := by decide +kernel
theorem c201_53 : qcd 201 53 = some (.invokestatic 55, 3) := by decide +kernel
theorem c201_56 : qcd 201 56 = some (.iastore, 1) := by decide +kernel
theorem c201_57 : qcd 201 57 = some (.iinc 3 1, 3) := by decide +kernel
theorem c201_60 : qcd 201 60 = some (.goto (-44), 3) := by decide +kernel
theorem c201_63 : qcd 201 63 = some (.iinc 2 1, 3) := by decide +kernel
theorem c201_66 : qcd 201 66 = some (.goto (-57), 3) := by decide +kernel
theorem c201_69 : qcd 201 69 = some (.iinc 1 1, 3) := by decide +kernel
theorem c201_72 : qcd 201 72 = some (.goto (-70), 3) := by decide +kernel
theorem c201_75 : qcd 201 75 = some (.return_, 1) := by decide +kernel
theorem c202_0 : qcd 202 0 = some (.aload_n 0, 1) := by decide +kernel
theorem c202_1 : qcd 202 1 = some (.invokevirtual 42, 3) := by decide +kernel
theorem c202_4 : qcd 202 4 = some (.aload_n 0, 1) := by decide +kernel
theorem c202_5 : qcd 202 5 = some (.invokevirtual 45, 3) := by decide +kernel
theorem c202_8 : qcd 202 8 = some (.iconst 0, 1) := by decide +kernel
theorem c202_9 : qcd 202 9 = some (.istore_n 3, 1) := by decide +kernel
theorem c202_10 : qcd 202 10 = some (.iload_n 3, 1) := by decide +kernel
theorem c202_11 : qcd 202 11 = some (.iconst 5, 1) := by decide +kernel
theorem c202_12 : qcd 202 12 = some (.if_icmp .ge 22, 3) := by decide +kernel
theorem c202_15 : qcd 202 15 = some (.aload_n 0, 1) := by decide +kernel
theorem c202_16 : qcd 202 16 = some (.getfield 32, 3) := by decide +kernel
theorem c202_19 : qcd 202 19 = some (.iload_n 3, 1) := by decide +kernel
theorem c202_20 : qcd 202 20 = some (.aaload, 1) := by decide +kernel
theorem c202_21 : qcd 202 21 = some (.iload_n 3, 1) := by decide +kernel
theorem c202_22 : qcd 202 22 = some (.iaload, 1) := by decide +kernel
theorem c202_23 : qcd 202 23 = some (.ifCond .ge 5, 3) := by decide +kernel
theorem c202_26 : qcd 202 26 = some (.iconst 4, 1) := by decide +kernel
theorem c202_27 : qcd 202 27 = some (.ireturn, 1) := by decide +kernel
theorem c202_28 : qcd 202 28 = some (.iinc 3 1, 3) := by decide +kernel
theorem c202_31 : qcd 202 31 = some (.goto (-21), 3) := by decide +kernel
theorem c202_34 : qcd 202 34 = some (.aload_n 0, 1) := by decide +kernel
theorem c202_35 : qcd 202 35 = some (.getfield 21, 3) := by decide +kernel
theorem c202_38 : qcd 202 38 = some (.iload_n 2, 1) := by decide +kernel
theorem c202_39 : qcd 202 39 = some (.iaload, 1) := by decide +kernel
theorem c202_40 : qcd 202 40 = some (.aload_n 0, 1) := by decide +kernel
theorem c202_41 : qcd 202 41 = some (.getfield 21, 3) := by decide +kernel
theorem c202_44 : qcd 202 44 = some (.iload_n 1, 1) := by decide +kernel
theorem c202_45 : qcd 202 45 = some (.iaload, 1) := by decide +kernel
theorem c202_46 : qcd 202 46 = some (.isub, 1) := by decide +kernel
theorem c202_47 : qcd 202 47 = some (.istore_n 3, 1) := by decide +kernel
theorem c202_48 : qcd 202 48 = some (.aload_n 0, 1) := by decide +kernel
theorem c202_49 : qcd 202 49 = some (.getfield 32, 3) := by decide +kernel
theorem c202_52 : qcd 202 52 = some (.aload_n 0, 1) := by decide +kernel
theorem c202_53 : qcd 202 53 = some (.getfield 18, 3) := by decide +kernel
theorem c202_56 : qcd 202 56 = some (.iload_n 1, 1) := by decide +kernel
theorem c202_57 : qcd 202 57 = some (.iaload, 1) := by decide +kernel
theorem c202_58 : qcd 202 58 = some (.aaload, 1) := by decide +kernel
theorem c202_59 : qcd 202 59 = some (.aload_n 0, 1) := by decide +kernel
theorem c202_60 : qcd 202 60 = some (.getfield 18, 3) := by decide +kernel
theorem c202_63 : qcd 202 63 = some (.iload_n 2, 1) := by decide +kernel
theorem c202_64 : qcd 202 64 = some (.iaload, 1) := by decide +kernel
theorem c202_65 : qcd 202 65 = some (.iaload, 1) := by decide +kernel
theorem c202_66 : qcd 202 66 = some (.istore 4, 2) := by decide +kernel
theorem c202_68 : qcd 202 68 = some (.aload_n 0, 1) := by decide +kernel
theorem c202_69 : qcd 202 69 = some (.getfield 32, 3) := by decide +kernel
theorem c202_72 : qcd 202 72 = some (.aload_n 0, 1) := by decide +kernel
theorem c202_73 : qcd 202 73 = some (.getfield 18, 3) := by decide +kernel
theorem c202_76 : qcd 202 76 = some (.iload_n 2, 1) := by decide +kernel
theorem c202_77 : qcd 202 77 = some (.iaload, 1) := by decide +kernel
theorem c202_78 : qcd 202 78 = some (.aaload, 1) := by decide +kernel
theorem c202_79 : qcd 202 79 = some (.aload_n 0, 1) := by decide +kernel
theorem c202_80 : qcd 202 80 = some (.getfield 18, 3) := by decide +kernel
theorem c202_83 : qcd 202 83 = some (.iload_n 1, 1) := by decide +kernel
theorem c202_84 : qcd 202 84 = some (.iaload, 1) := by decide +kernel
theorem c202_85 : qcd 202 85 = some (.iaload, 1) := by decide +kernel
theorem c202_86 : qcd 202 86 = some (.ineg, 1) := by decide +kernel
theorem c202_87 : qcd 202 87 = some (.istore 5, 2) := by decide +kernel
theorem c202_89 : qcd 202 89 = some (.iload 4, 2) := by decide +kernel
theorem c202_91 : qcd 202 91 = some (.iload_n 3, 1) := by decide +kernel
theorem c202_92 : qcd 202 92 = some (.if_icmp .ge 5, 3) := by decide +kernel
theorem c202_95 : qcd 202 95 = some (.iconst 0, 1) := by decide +kernel
theorem c202_96 : qcd 202 96 = some (.ireturn, 1) := by decide +kernel
theorem c202_97 : qcd 202 97 = some (.iload 5, 2) := by decide +kernel
theorem c202_99 : qcd 202 99 = some (.iload_n 3, 1) := by decide +kernel
theorem c202_100 : qcd 202 100 = some (.if_icmp .le 5, 3) := by decide +kernel
theorem c202_103 : qcd 202 103 = some (.iconst 1, 1) := by decide +kernel
theorem c202_104 : qcd 202 104 = some (.ireturn, 1) := by decide +kernel
theorem c202_105 : qcd 202 105 = some (.iload 4, 2) := by decide +kernel
theorem c202_107 : qcd 202 107 = some (.iload_n 3, 1) := by decide +kernel
theorem c202_108 : qcd 202 108 = some (.if_icmp .ne 13, 3) := by decide +kernel
theorem c202_111 : qcd 202 111 = some (.iload 5, 2) := by decide +kernel
theorem c202_113 : qcd 202 113 = some (.iload_n 3, 1) := by decide +kernel
theorem c202_114 : qcd 202 114 = some (.if_icmp .ne 7, 3) := by decide +kernel
theorem c202_117 : qcd 202 117 = some (.iconst 2, 1) := by decide +kernel
theorem c202_118 : qcd 202 118 = some (.goto 4, 3) := by decide +kernel
theorem c202_121 : qcd 202 121 = some (.iconst 3, 1) := by decide +kernel
theorem c202_122 : qcd 202 122 = some (.ireturn, 1) := by decide +kernel
theorem c203_0 : qcd 203 0 = some (.iload_n 1, 1) := by decide +kernel
theorem c203_1 : qcd 203 1 = some (.ifCond .lt 15, 3) := by decide +kernel
theorem c203_4 : qcd 203 4 = some (.iload_n 1, 1) := by decide +kernel
theorem c203_5 : qcd 203 5 = some (.aload_n 0, 1) := by decide +kernel
theorem c203_6 : qcd 203 6 = some (.getfield 35, 3) := by decide +kernel
theorem c203_9 : qcd 203 9 = some (.if_icmp .ge 7, 3) := by decide +kernel
theorem c203_12 : qcd 203 12 = some (.iconst 1, 1) := by decide +kernel
theorem c203_13 : qcd 203 13 = some (.goto 4, 3) := by decide +kernel
theorem c203_16 : qcd 203 16 = some (.iconst 0, 1) := by decide +kernel
theorem c203_17 : qcd 203 17 = some (.ireturn, 1) := by decide +kernel
theorem c204_0 : qcd 204 0 = some (.aload_n 0, 1) := by decide +kernel
theorem c204_1 : qcd 204 1 = some (.invokespecial 3, 3) := by decide +kernel
theorem c204_4 : qcd 204 4 = some (.aload_n 0, 1) := by decide +kernel
theorem c204_5 : qcd 204 5 = some (.iconst 4, 1) := by decide +kernel
theorem c204_6 : qcd 204 6 = some (.newarray .int, 2) := by decide +kernel
theorem c204_8 : qcd 204 8 = some (.putfield 9, 3) := by decide +kernel
theorem c204_11 : qcd 204 11 = some (.aload_n 0, 1) := by decide +kernel
theorem c204_12 : qcd 204 12 = some (.iconst 4, 1) := by decide +kernel
theorem c204_13 : qcd 204 13 = some (.newarray .int, 2) := by decide +kernel
theorem c204_15 : qcd 204 15 = some (.putfield 15, 3) := by decide +kernel
theorem c204_18 : qcd 204 18 = some (.aload_n 0, 1) := by decide +kernel
theorem c204_19 : qcd 204 19 = some (.bipush 40, 2) := by decide +kernel
theorem c204_21 : qcd 204 21 = some (.newarray .int, 2) := by decide +kernel
theorem c204_23 : qcd 204 23 = some (.putfield 18, 3) := by decide +kernel
theorem c204_26 : qcd 204 26 = some (.aload_n 0, 1) := by decide +kernel
theorem c204_27 : qcd 204 27 = some (.bipush 40, 2) := by decide +kernel
theorem c204_29 : qcd 204 29 = some (.newarray .int, 2) := by decide +kernel
theorem c204_31 : qcd 204 31 = some (.putfield 21, 3) := by decide +kernel
theorem c204_34 : qcd 204 34 = some (.aload_n 0, 1) := by decide +kernel
theorem c204_35 : qcd 204 35 = some (.bipush 100, 2) := by decide +kernel
theorem c204_37 : qcd 204 37 = some (.newarray .int, 2) := by decide +kernel
theorem c204_39 : qcd 204 39 = some (.putfield 24, 3) := by decide +kernel
theorem c204_42 : qcd 204 42 = some (.aload_n 0, 1) := by decide +kernel
theorem c204_43 : qcd 204 43 = some (.bipush 100, 2) := by decide +kernel
theorem c204_45 : qcd 204 45 = some (.newarray .int, 2) := by decide +kernel
theorem c204_47 : qcd 204 47 = some (.putfield 27, 3) := by decide +kernel
theorem c204_50 : qcd 204 50 = some (.aload_n 0, 1) := by decide +kernel
theorem c204_51 : qcd 204 51 = some (.iconst 5, 1) := by decide +kernel
theorem c204_52 : qcd 204 52 = some (.iconst 5, 1) := by decide +kernel
theorem c204_53 : qcd 204 53 = some (.multianewarray 30 2, 4) := by decide +kernel
theorem c204_57 : qcd 204 57 = some (.putfield 32, 3) := by decide +kernel
theorem c204_60 : qcd 204 60 = some (.return_, 1) := by decide +kernel
theorem c205_0 : qcd 205 0 = some (.aload_n 0, 1) := by decide +kernel
theorem c205_1 : qcd 205 1 = some (.getfield 21, 3) := by decide +kernel
theorem c205_4 : qcd 205 4 = some (.sipush 400, 3) := by decide +kernel
theorem c205_7 : qcd 205 7 = some (.if_icmp .ge 43, 3) := by decide +kernel
theorem c205_10 : qcd 205 10 = some (.aload_n 0, 1) := by decide +kernel
theorem c205_11 : qcd 205 11 = some (.getfield 11, 3) := by decide +kernel
theorem c205_14 : qcd 205 14 = some (.aload_n 0, 1) := by decide +kernel
theorem c205_15 : qcd 205 15 = some (.getfield 21, 3) := by decide +kernel
theorem c205_18 : qcd 205 18 = some (.iload_n 1, 1) := by decide +kernel
theorem c205_19 : qcd 205 19 = some (.iastore, 1) := by decide +kernel
theorem c205_20 : qcd 205 20 = some (.aload_n 0, 1) := by decide +kernel
theorem c205_21 : qcd 205 21 = some (.getfield 15, 3) := by decide +kernel
theorem c205_24 : qcd 205 24 = some (.aload_n 0, 1) := by decide +kernel
theorem c205_25 : qcd 205 25 = some (.getfield 21, 3) := by decide +kernel
theorem c205_28 : qcd 205 28 = some (.iload_n 2, 1) := by decide +kernel
theorem c205_29 : qcd 205 29 = some (.iastore, 1) := by decide +kernel
theorem c205_30 : qcd 205 30 = some (.aload_n 0, 1) := by decide +kernel
theorem c205_31 : qcd 205 31 = some (.getfield 18, 3) := by decide +kernel
theorem c205_34 : qcd 205 34 = some (.aload_n 0, 1) := by decide +kernel
theorem c205_35 : qcd 205 35 = some (.getfield 21, 3) := by decide +kernel
theorem c205_38 : qcd 205 38 = some (.iload_n 3, 1) := by decide +kernel
theorem c205_39 : qcd 205 39 = some (.iastore, 1) := by decide +kernel
theorem c205_40 : qcd 205 40 = some (.aload_n 0, 1) := by decide +kernel
theorem c205_41 : qcd 205 41 = some (.dup, 1) := by decide +kernel
theorem c205_42 : qcd 205 42 = some (.getfield 21, 3) := by decide +kernel
theorem c205_45 : qcd 205 45 = some (.iconst 1, 1) := by decide +kernel
theorem c205_46 : qcd 205 46 = some (.iadd, 1) := by decide +kernel
theorem c205_47 : qcd 205 47 = some (.putfield 21, 3) := by decide +kernel
theorem c205_50 : qcd 205 50 = some (.return_, 1) := by decide +kernel
theorem c206_0 : qcd 206 0 = some (.iload_n 1, 1) := by decide +kernel
theorem c206_1 : qcd 206 1 = some (.ifCond .lt 15, 3) := by decide +kernel
theorem c206_4 : qcd 206 4 = some (.iload_n 1, 1) := by decide +kernel
theorem c206_5 : qcd 206 5 = some (.aload_n 0, 1) := by decide +kernel
theorem c206_6 : qcd 206 6 = some (.getfield 21, 3) := by decide +kernel
theorem c206_9 : qcd 206 9 = some (.if_icmp .ge 7, 3) := by decide +kernel
theorem c206_12 : qcd 206 12 = some (.iconst 1, 1) := by decide +kernel
theorem c206_13 : qcd 206 13 = some (.goto 4, 3) := by decide +kernel
theorem c206_16 : qcd 206 16 = some (.iconst 0, 1) := by decide +kernel
theorem c206_17 : qcd 206 17 = some (.ireturn, 1) := by decide +kernel
theorem c207_0 : qcd 207 0 = some (.aload_n 0, 1) := by decide +kernel
theorem c207_1 : qcd 207 1 = some (.invokespecial 3, 3) := by decide +kernel
theorem c207_4 : qcd 207 4 = some (.aload_n 0, 1) := by decide +kernel
theorem c207_5 : qcd 207 5 = some (.sipush 400, 3) := by decide +kernel
theorem c207_8 : qcd 207 8 = some (.newarray .int, 2) := by decide +kernel
theorem c207_10 : qcd 207 10 = some (.putfield 11, 3) := by decide +kernel
theorem c207_13 : qcd 207 13 = some (.aload_n 0, 1) := by decide +kernel
theorem c207_14 : qcd 207 14 = some (.sipush 400, 3) := by decide +kernel
theorem c207_17 : qcd 207 17 = some (.newarray .int, 2) := by decide +kernel
theorem c207_19 : qcd 207 19 = some (.putfield 15, 3) := by decide +kernel
theorem c207_22 : qcd 207 22 = some (.aload_n 0, 1) := by decide +kernel
theorem c207_23 : qcd 207 23 = some (.sipush 400, 3) := by decide +kernel
theorem c207_26 : qcd 207 26 = some (.newarray .int, 2) := by decide +kernel
theorem c207_28 : qcd 207 28 = some (.putfield 18, 3) := by decide +kernel
theorem c207_31 : qcd 207 31 = some (.return_, 1) := by decide +kernel
theorem c208_0 : qcd 208 0 = some (.iconst 0, 1) := by decide +kernel
theorem c208_1 : qcd 208 1 = some (.istore_n 3, 1) := by decide +kernel
theorem c208_2 : qcd 208 2 = some (.iload_n 3, 1) := by decide +kernel
theorem c208_3 : qcd 208 3 = some (.aload_n 1, 1) := by decide +kernel
theorem c208_4 : qcd 208 4 = some (.getfield 25, 3) := by decide +kernel
theorem c208_7 : qcd 208 7 = some (.getfield 31, 3) := by decide +kernel
theorem c208_10 : qcd 208 10 = some (.if_icmp .ge 24, 3) := by decide +kernel
theorem c208_13 : qcd 208 13 = some (.aload_n 0, 1) := by decide +kernel
theorem c208_14 : qcd 208 14 = some (.iconst 0, 1) := by decide +kernel
theorem c208_15 : qcd 208 15 = some (.aload_n 1, 1) := by decide +kernel
theorem c208_16 : qcd 208 16 = some (.getfield 25, 3) := by decide +kernel
theorem c208_19 : qcd 208 19 = some (.getfield 36, 3) := by decide +kernel
theorem c208_22 : qcd 208 22 = some (.iload_n 3, 1) := by decide +kernel
theorem c208_23 : qcd 208 23 = some (.iaload, 1) := by decide +kernel
theorem c208_24 : qcd 208 24 = some (.iload_n 2, 1) := by decide +kernel
theorem c208_25 : qcd 208 25 = some (.invokevirtual 39, 3) := by decide +kernel
theorem c208_28 : qcd 208 28 = some (.iinc 3 1, 3) := by decide +kernel
theorem c208_31 : qcd 208 31 = some (.goto (-29), 3) := by decide +kernel
theorem c208_34 : qcd 208 34 = some (.aload_n 0, 1) := by decide +kernel
theorem c208_35 : qcd 208 35 = some (.iconst 1, 1) := by decide +kernel
theorem c208_36 : qcd 208 36 = some (.aload_n 1, 1) := by decide +kernel
theorem c208_37 : qcd 208 37 = some (.getfield 43, 3) := by decide +kernel
theorem c208_40 : qcd 208 40 = some (.iload_n 2, 1) := by decide +kernel
theorem c208_41 : qcd 208 41 = some (.invokevirtual 46, 3) := by decide +kernel
theorem c208_44 : qcd 208 44 = some (.aload_n 0, 1) := by decide +kernel
theorem c208_45 : qcd 208 45 = some (.iconst 2, 1) := by decide +kernel
theorem c208_46 : qcd 208 46 = some (.aload_n 1, 1) := by decide +kernel
theorem c208_47 : qcd 208 47 = some (.getfield 49, 3) := by decide +kernel
theorem c208_50 : qcd 208 50 = some (.iload_n 2, 1) := by decide +kernel
theorem c208_51 : qcd 208 51 = some (.invokevirtual 46, 3) := by decide +kernel
theorem c208_54 : qcd 208 54 = some (.aload_n 0, 1) := by decide +kernel
theorem c208_55 : qcd 208 55 = some (.iconst 3, 1) := by decide +kernel
theorem c208_56 : qcd 208 56 = some (.aload_n 1, 1) := by decide +kernel
theorem c208_57 : qcd 208 57 = some (.getfield 52, 3) := by decide +kernel
theorem c208_60 : qcd 208 60 = some (.iload_n 2, 1) := by decide +kernel
theorem c208_61 : qcd 208 61 = some (.invokevirtual 46, 3) := by decide +kernel
theorem c208_64 : qcd 208 64 = some (.return_, 1) := by decide +kernel
theorem c209_0 : qcd 209 0 = some (.iconst 0, 1) := by decide +kernel
theorem c209_1 : qcd 209 1 = some (.istore 4, 2) := by decide +kernel
theorem c209_3 : qcd 209 3 = some (.iload 4, 2) := by decide +kernel
theorem c209_5 : qcd 209 5 = some (.bipush 14, 2) := by decide +kernel
theorem c209_7 : qcd 209 7 = some (.if_icmp .ge 27, 3) := by decide +kernel
theorem c209_10 : qcd 209 10 = some (.iload_n 2, 1) := by decide +kernel
theorem c209_11 : qcd 209 11 = some (.iload 4, 2) := by decide +kernel
theorem c209_13 : qcd 209 13 = some (.ishr, 1) := by decide +kernel
theorem c209_14 : qcd 209 14 = some (.iconst 1, 1) := by decide +kernel
theorem c209_15 : qcd 209 15 = some (.iand, 1) := by decide +kernel
theorem c209_16 : qcd 209 16 = some (.iconst 1, 1) := by decide +kernel
theorem c209_17 : qcd 209 17 = some (.if_icmp .ne 11, 3) := by decide +kernel
theorem c209_20 : qcd 209 20 = some (.aload_n 0, 1) := by decide +kernel
theorem c209_21 : qcd 209 21 = some (.iload_n 1, 1) := by decide +kernel
theorem c209_22 : qcd 209 22 = some (.iload 4, 2) := by decide +kernel
theorem c209_24 : qcd 209 24 = some (.iload_n 3, 1) := by decide +kernel
theorem c209_25 : qcd 209 25 = some (.invokevirtual 39, 3) := by decide +kernel
theorem c209_28 : qcd 209 28 = some (.iinc 4 1, 3) := by decide +kernel
theorem c209_31 : qcd 209 31 = some (.goto (-28), 3) := by decide +kernel
theorem c209_34 : qcd 209 34 = some (.return_, 1) := by decide +kernel
theorem c210_0 : qcd 210 0 = some (.aload_n 0, 1) := by decide +kernel
theorem c210_1 : qcd 210 1 = some (.getfield 62, 3) := by decide +kernel
theorem c210_4 : qcd 210 4 = some (.istore_n 3, 1) := by decide +kernel
theorem c210_5 : qcd 210 5 = some (.iload_n 3, 1) := by decide +kernel
theorem c210_6 : qcd 210 6 = some (.istore 4, 2) := by decide +kernel
theorem c210_8 : qcd 210 8 = some (.iload 4, 2) := by decide +kernel
theorem c210_10 : qcd 210 10 = some (.ifCond .le 43, 3) := by decide +kernel
theorem c210_13 : qcd 210 13 = some (.aload_n 0, 1) := by decide +kernel
theorem c210_14 : qcd 210 14 = some (.getfield 26, 3) := by decide +kernel
theorem c210_17 : qcd 210 17 = some (.aload_n 0, 1) := by decide +kernel
theorem c210_18 : qcd 210 18 = some (.getfield 29, 3) := by decide +kernel
theorem c210_21 : qcd 210 21 = some (.iload 4, 2) := by decide +kernel
theorem c210_23 : qcd 210 23 = some (.iconst 1, 1) := by decide +kernel
theorem c210_24 : qcd 210 24 = some (.isub, 1) := by decide +kernel
theorem c210_25 : qcd 210 25 = some (.iaload, 1) := by decide +kernel
theorem c210_26 : qcd 210 26 = some (.iaload, 1) := by decide +kernel
theorem c210_27 : qcd 210 27 = some (.iload_n 2, 1) := by decide +kernel
theorem c210_28 : qcd 210 28 = some (.if_icmp .ge 25, 3) := by decide +kernel
theorem c210_31 : qcd 210 31 = some (.aload_n 0, 1) := by decide +kernel
theorem c210_32 : qcd 210 32 = some (.getfield 29, 3) := by decide +kernel
theorem c210_35 : qcd 210 35 = some (.iload 4, 2) := by decide +kernel
theorem c210_37 : qcd 210 37 = some (.aload_n 0, 1) := by decide +kernel
theorem c210_38 : qcd 210 38 = some (.getfield 29, 3) := by decide +kernel
theorem c210_41 : qcd 210 41 = some (.iload 4, 2) := by decide +kernel
theorem c210_43 : qcd 210 43 = some (.iconst 1, 1) := by decide +kernel
theorem c210_44 : qcd 210 44 = some (.isub, 1) := by decide +kernel
theorem c210_45 : qcd 210 45 = some (.iaload, 1) := by decide +kernel
theorem c210_46 : qcd 210 46 = some (.iastore, 1) := by decide +kernel
theorem c210_47 : qcd 210 47 = some (.iinc 4 (-1), 3) := by decide +kernel
theorem c210_50 : qcd 210 50 = some (.goto (-42), 3) := by decide +kernel
theorem c210_53 : qcd 210 53 = some (.aload_n 0, 1) := by decide +kernel
theorem c210_54 : qcd 210 54 = some (.getfield 29, 3) := by decide +kernel
theorem c210_57 : qcd 210 57 = some (.iload 4, 2) := by decide +kernel
theorem c210_59 : qcd 210 59 = some (.iload_n 3, 1) := by decide +kernel
theorem c210_60 : qcd 210 60 = some (.iastore, 1) := by decide +kernel
theorem c210_61 : qcd 210 61 = some (.aload_n 0, 1) := by decide +kernel
theorem c210_62 : qcd 210 62 = some (.getfield 22, 3) := by decide +kernel
theorem c210_65 : qcd 210 65 = some (.iload_n 3, 1) := by decide +kernel
theorem c210_66 : qcd 210 66 = some (.iload_n 1, 1) := by decide +kernel
theorem c210_67 : qcd 210 67 = some (.iastore, 1) := by decide +kernel
theorem c210_68 : qcd 210 68 = some (.aload_n 0, 1) := by decide +kernel
theorem c210_69 : qcd 210 69 = some (.getfield 26, 3) := by decide +kernel
theorem c210_72 : qcd 210 72 = some (.iload_n 3, 1) := by decide +kernel
theorem c210_73 : qcd 210 73 = some (.iload_n 2, 1) := by decide +kernel
theorem c210_74 : qcd 210 74 = some (.iastore, 1) := by decide +kernel
theorem c210_75 : qcd 210 75 = some (.aload_n 0, 1) := by decide +kernel
theorem c210_76 : qcd 210 76 = some (.dup, 1) := by decide +kernel
theorem c210_77 : qcd 210 77 = some (.getfield 62, 3) := by decide +kernel
theorem c210_80 : qcd 210 80 = some (.iconst 1, 1) := by decide +kernel
theorem c210_81 : qcd 210 81 = some (.iadd, 1) := by decide +kernel
theorem c210_82 : qcd 210 82 = some (.putfield 62, 3) := by decide +kernel
theorem c210_85 : qcd 210 85 = some (.iload_n 3, 1) := by decide +kernel
theorem c210_86 : qcd 210 86 = some (.ireturn, 1) := by decide +kernel
theorem c211_0 : qcd 211 0 = some (.aload_n 0, 1) := by decide +kernel
theorem c211_1 : qcd 211 1 = some (.getfield 65, 3) := by decide +kernel
theorem c211_4 : qcd 211 4 = some (.istore 6, 2) := by decide +kernel
theorem c211_6 : qcd 211 6 = some (.aload_n 0, 1) := by decide +kernel
theorem c211_7 : qcd 211 7 = some (.getfield 32, 3) := by decide +kernel
theorem c211_10 : qcd 211 10 = some (.iload 6, 2) := by decide +kernel
theorem c211_12 : qcd 211 12 = some (.iload_n 1, 1) := by decide +kernel
theorem c211_13 : qcd 211 13 = some (.iastore, 1) := by decide +kernel
theorem c211_14 : qcd 211 14 = some (.aload_n 0, 1) := by decide +kernel
theorem c211_15 : qcd 211 15 = some (.getfield 35, 3) := by decide +kernel
theorem c211_18 : qcd 211 18 = some (.iload 6, 2) := by decide +kernel
theorem c211_20 : qcd 211 20 = some (.iload_n 2, 1) := by decide +kernel
theorem c211_21 : qcd 211 21 = some (.iastore, 1) := by decide +kernel
theorem c211_22 : qcd 211 22 = some (.aload_n 0, 1) := by decide +kernel
theorem c211_23 : qcd 211 23 = some (.getfield 38, 3) := by decide +kernel
theorem c211_26 : qcd 211 26 = some (.iload 6, 2) := by decide +kernel
theorem c211_28 : qcd 211 28 = some (.iload_n 3, 1) := by decide +kernel
theorem c211_29 : qcd 211 29 = some (.iastore, 1) := by decide +kernel
theorem c211_30 : qcd 211 30 = some (.aload_n 0, 1) := by decide +kernel
theorem c211_31 : qcd 211 31 = some (.getfield 41, 3) := by decide +kernel
theorem c211_34 : qcd 211 34 = some (.iload 6, 2) := by decide +kernel
theorem c211_36 : qcd 211 36 = some (.iload 4, 2) := by decide +kernel
theorem c211_38 : qcd 211 38 = some (.iastore, 1) := by decide +kernel
theorem c211_39 : qcd 211 39 = some (.aload_n 0, 1) := by decide +kernel
theorem c211_40 : qcd 211 40 = some (.getfield 44, 3) := by decide +kernel
theorem c211_43 : qcd 211 43 = some (.iload 6, 2) := by decide +kernel
theorem c211_45 : qcd 211 45 = some (.iload 5, 2) := by decide +kernel
theorem c211_47 : qcd 211 47 = some (.iastore, 1) := by decide +kernel
theorem c211_48 : qcd 211 48 = some (.aload_n 0, 1) := by decide +kernel
theorem c211_49 : qcd 211 49 = some (.getfield 47, 3) := by decide +kernel
theorem c211_52 : qcd 211 52 = some (.iload 6, 2) := by decide +kernel
theorem c211_54 : qcd 211 54 = some (.iconst 1, 1) := by decide +kernel
theorem c211_55 : qcd 211 55 = some (.iastore, 1) := by decide +kernel
theorem c211_56 : qcd 211 56 = some (.aload_n 0, 1) := by decide +kernel
theorem c211_57 : qcd 211 57 = some (.dup, 1) := by decide +kernel
theorem c211_58 : qcd 211 58 = some (.getfield 65, 3) := by decide +kernel
theorem c211_61 : qcd 211 61 = some (.iconst 1, 1) := by decide +kernel
theorem c211_62 : qcd 211 62 = some (.iadd, 1) := by decide +kernel
theorem c211_63 : qcd 211 63 = some (.putfield 65, 3) := by decide +kernel
theorem c211_66 : qcd 211 66 = some (.iload 6, 2) := by decide +kernel
theorem c211_68 : qcd 211 68 = some (.ireturn, 1) := by decide +kernel
theorem c212_0 : qcd 212 0 = some (.aload_n 0, 1) := by decide +kernel
theorem c212_1 : qcd 212 1 = some (.getfield 68, 3) := by decide +kernel
theorem c212_4 : qcd 212 4 = some (.istore 4, 2) := by decide +kernel
theorem c212_6 : qcd 212 6 = some (.iload 4, 2) := by decide +kernel
theorem c212_8 : qcd 212 8 = some (.istore 5, 2) := by decide +kernel
theorem c212_10 : qcd 212 10 = some (.iload 5, 2) := by decide +kernel
theorem c212_12 : qcd 212 12 = some (.ifCond .le 43, 3) := by decide +kernel
theorem c212_15 : qcd 212 15 = some (.aload_n 0, 1) := by decide +kernel
theorem c212_16 : qcd 212 16 = some (.getfield 56, 3) := by decide +kernel
theorem c212_19 : qcd 212 19 = some (.aload_n 0, 1) := by decide +kernel
theorem c212_20 : qcd 212 20 = some (.getfield 59, 3) := by decide +kernel
theorem c212_23 : qcd 212 23 = some (.iload 5, 2) := by decide +kernel
theorem c212_25 : qcd 212 25 = some (.iconst 1, 1) := by decide +kernel
theorem c212_26 : qcd 212 26 = some (.isub, 1) := by decide +kernel
theorem c212_27 : qcd 212 27 = some (.iaload, 1) := by decide +kernel
theorem c212_28 : qcd 212 28 = some (.iaload, 1) := by decide +kernel
theorem c212_29 : qcd 212 29 = some (.iload_n 3, 1) := by decide +kernel
theorem c212_30 : qcd 212 30 = some (.if_icmp .le 25, 3) := by decide +kernel
theorem c212_33 : qcd 212 33 = some (.aload_n 0, 1) := by decide +kernel
theorem c212_34 : qcd 212 34 = some (.getfield 59, 3) := by decide +kernel
theorem c212_37 : qcd 212 37 = some (.iload 5, 2) := by decide +kernel
theorem c212_39 : qcd 212 39 = some (.aload_n 0, 1) := by decide +kernel
theorem c212_40 : qcd 212 40 = some (.getfield 59, 3) := by decide +kernel
theorem c212_43 : qcd 212 43 = some (.iload 5, 2) := by decide +kernel
theorem c212_45 : qcd 212 45 = some (.iconst 1, 1) := by decide +kernel
theorem c212_46 : qcd 212 46 = some (.isub, 1) := by decide +kernel
theorem c212_47 : qcd 212 47 = some (.iaload, 1) := by decide +kernel
theorem c212_48 : qcd 212 48 = some (.iastore, 1) := by decide +kernel
theorem c212_49 : qcd 212 49 = some (.iinc 5 (-1), 3) := by decide +kernel
theorem c212_52 : qcd 212 52 = some (.goto (-42), 3) := by decide +kernel
theorem c212_55 : qcd 212 55 = some (.aload_n 0, 1) := by decide +kernel
theorem c212_56 : qcd 212 56 = some (.getfield 59, 3) := by decide +kernel
theorem c212_59 : qcd 212 59 = some (.iload 5, 2) := by decide +kernel
theorem c212_61 : qcd 212 61 = some (.iload 4, 2) := by decide +kernel
theorem c212_63 : qcd 212 63 = some (.iastore, 1) := by decide +kernel
theorem c212_64 : qcd 212 64 = some (.aload_n 0, 1) := by decide +kernel
theorem c212_65 : qcd 212 65 = some (.getfield 50, 3) := by decide +kernel
theorem c212_68 : qcd 212 68 = some (.iload 4, 2) := by decide +kernel
theorem c212_70 : qcd 212 70 = some (.iload_n 1, 1) := by decide +kernel
theorem c212_71 : qcd 212 71 = some (.iastore, 1) := by decide +kernel
theorem c212_72 : qcd 212 72 = some (.aload_n 0, 1) := by decide +kernel
theorem c212_73 : qcd 212 73 = some (.getfield 53, 3) := by decide +kernel
theorem c212_76 : qcd 212 76 = some (.iload 4, 2) := by decide +kernel
theorem c212_78 : qcd 212 78 = some (.iload_n 2, 1) := by decide +kernel
theorem c212_79 : qcd 212 79 = some (.iastore, 1) := by decide +kernel
theorem c212_80 : qcd 212 80 = some (.aload_n 0, 1) := by decide +kernel
theorem c212_81 : qcd 212 81 = some (.getfield 56, 3) := by decide +kernel
theorem c212_84 : qcd 212 84 = some (.iload 4, 2) := by decide +kernel
theorem c212_86 : qcd 212 86 = some (.iload_n 3, 1) := by decide +kernel
theorem c212_87 : qcd 212 87 = some (.iastore, 1) := by decide +kernel
theorem c212_88 : qcd 212 88 = some (.aload_n 0, 1) := by decide +kernel
theorem c212_89 : qcd 212 89 = some (.dup, 1) := by decide +kernel
theorem c212_90 : qcd 212 90 = some (.getfield 68, 3) := by decide +kernel
theorem c212_93 : qcd 212 93 = some (.iconst 1, 1) := by decide +kernel
theorem c212_94 : qcd 212 94 = some (.iadd, 1) := by decide +kernel
theorem c212_95 : qcd 212 95 = some (.putfield 68, 3) := by decide +kernel
theorem c212_98 : qcd 212 98 = some (.iload 4, 2) := by decide +kernel
theorem c212_100 : qcd 212 100 = some (.ireturn, 1) := by decide +kernel
theorem c213_0 : qcd 213 0 = some (.iconst 0, 1) := by decide +kernel
theorem c213_1 : qcd 213 1 = some (.istore 4, 2) := by decide +kernel
theorem c213_3 : qcd 213 3 = some (.iload 4, 2) := by decide +kernel
theorem c213_5 : qcd 213 5 = some (.aload_n 0, 1) := by decide +kernel
theorem c213_6 : qcd 213 6 = some (.getfield 62, 3) := by decide +kernel
theorem c213_9 : qcd 213 9 = some (.if_icmp .ge 15, 3) := by decide +kernel
theorem c213_12 : qcd 213 12 = some (.aload_n 3, 1) := by decide +kernel
theorem c213_13 : qcd 213 13 = some (.iload 4, 2) := by decide +kernel
theorem c213_15 : qcd 213 15 = some (.iload 4, 2) := by decide +kernel
theorem c213_17 : qcd 213 17 = some (.iastore, 1) := by decide +kernel
theorem c213_18 : qcd 213 18 = some (.iinc 4 1, 3) := by decide +kernel
theorem c213_21 : qcd 213 21 = some (.goto (-18), 3) := by decide +kernel
theorem c213_24 : qcd 213 24 = some (.iconst 1, 1) := by decide +kernel
theorem c213_25 : qcd 213 25 = some (.istore 4, 2) := by decide +kernel
theorem c213_27 : qcd 213 27 = some (.iconst 0, 1) := by decide +kernel
theorem c213_28 : qcd 213 28 = some (.istore 5, 2) := by decide +kernel
theorem c213_30 : qcd 213 30 = some (.iload 5, 2) := by decide +kernel
theorem c213_32 : qcd 213 32 = some (.aload_n 0, 1) := by decide +kernel
theorem c213_33 : qcd 213 33 = some (.getfield 62, 3) := by decide +kernel
theorem c213_36 : qcd 213 36 = some (.if_icmp .ge 141, 3) := by decide +kernel
theorem c213_39 : qcd 213 39 = some (.iload 4, 2) := by decide +kernel
theorem c213_41 : qcd 213 41 = some (.ifCond .eq 136, 3) := by decide +kernel
theorem c213_44 : qcd 213 44 = some (.iconst 0, 1) := by decide +kernel
theorem c213_45 : qcd 213 45 = some (.istore 4, 2) := by decide +kernel
theorem c213_47 : qcd 213 47 = some (.iconst 0, 1) := by decide +kernel
theorem c213_48 : qcd 213 48 = some (.istore 6, 2) := by decide +kernel
theorem c213_50 : qcd 213 50 = some (.iload 6, 2) := by decide +kernel
theorem c213_52 : qcd 213 52 = some (.aload_n 0, 1) := by decide +kernel
theorem c213_53 : qcd 213 53 = some (.getfield 65, 3) := by decide +kernel
theorem c213_56 : qcd 213 56 = some (.if_icmp .ge 115, 3) := by decide +kernel
theorem c213_59 : qcd 213 59 = some (.aload_n 1, 1) := by decide +kernel
theorem c213_60 : qcd 213 60 = some (.getfield 71, 3) := by decide +kernel
theorem c213_63 : qcd 213 63 = some (.iload 6, 2) := by decide +kernel
theorem c213_65 : qcd 213 65 = some (.iaload, 1) := by decide +kernel
theorem c213_66 : qcd 213 66 = some (.ifCond .eq 18, 3) := by decide +kernel
theorem c213_69 : qcd 213 69 = some (.iload_n 2, 1) := by decide +kernel
theorem c213_70 : qcd 213 70 = some (.ifCond .eq 18, 3) := by decide +kernel
theorem c213_73 : qcd 213 73 = some (.aload_n 1, 1) := by decide +kernel
theorem c213_74 : qcd 213 74 = some (.getfield 71, 3) := by decide +kernel
theorem c213_77 : qcd 213 77 = some (.iload 6, 2) := by decide +kernel
theorem c213_79 : qcd 213 79 = some (.iaload, 1) := by decide +kernel
theorem c213_80 : qcd 213 80 = some (.iconst 3, 1) := by decide +kernel
theorem c213_81 : qcd 213 81 = some (.if_icmp .eq 7, 3) := by decide +kernel
theorem c213_84 : qcd 213 84 = some (.iconst 1, 1) := by decide +kernel
theorem c213_85 : qcd 213 85 = some (.goto 4, 3) := by decide +kernel
theorem c213_88 : qcd 213 88 = some (.iconst 0, 1) := by decide +kernel
theorem c213_89 : qcd 213 89 = some (.istore 7, 2) := by decide +kernel
theorem c213_91 : qcd 213 91 = some (.iload 7, 2) := by decide +kernel
theorem c213_93 : qcd 213 93 = some (.ifCond .eq 72, 3) := by decide +kernel
theorem c213_96 : qcd 213 96 = some (.aload_n 3, 1) := by decide +kernel
theorem c213_97 : qcd 213 97 = some (.aload_n 0, 1) := by decide +kernel
theorem c213_98 : qcd 213 98 = some (.getfield 32, 3) := by decide +kernel
theorem c213_101 : qcd 213 101 = some (.iload 6, 2) := by decide +kernel
theorem c213_103 : qcd 213 103 = some (.iaload, 1) := by decide +kernel
theorem c213_104 : qcd 213 104 = some (.iaload, 1) := by decide +kernel
theorem c213_105 : qcd 213 105 = some (.aload_n 3, 1) := by decide +kernel
theorem c213_106 : qcd 213 106 = some (.aload_n 0, 1) := by decide +kernel
theorem c213_107 : qcd 213 107 = some (.getfield 35, 3) := by decide +kernel
theorem c213_110 : qcd 213 110 = some (.iload 6, 2) := by decide +kernel
theorem c213_112 : qcd 213 112 = some (.iaload, 1) := by decide +kernel
theorem c213_113 : qcd 213 113 = some (.iaload, 1) := by decide +kernel
theorem c213_114 : qcd 213 114 = some (.if_icmp .eq 51, 3) := by decide +kernel
theorem c213_117 : qcd 213 117 = some (.aload_n 3, 1) := by decide +kernel
theorem c213_118 : qcd 213 118 = some (.aload_n 0, 1) := by decide +kernel
theorem c213_119 : qcd 213 119 = some (.getfield 32, 3) := by decide +kernel
theorem c213_122 : qcd 213 122 = some (.iload 6, 2) := by decide +kernel
theorem c213_124 : qcd 213 124 = some (.iaload, 1) := by decide +kernel
theorem c213_125 : qcd 213 125 = some (.iaload, 1) := by decide +kernel
theorem c213_126 : qcd 213 126 = some (.aload_n 3, 1) := by decide +kernel
theorem c213_127 : qcd 213 127 = some (.aload_n 0, 1) := by decide +kernel
theorem c213_128 : qcd 213 128 = some (.getfield 35, 3) := by decide +kernel
theorem c213_131 : qcd 213 131 = some (.iload 6, 2) := by decide +kernel
theorem c213_133 : qcd 213 133 = some (.iaload, 1) := by decide +kernel
theorem c213_134 : qcd 213 134 = some (.iaload, 1) := by decide +kernel
theorem c213_135 : qcd 213 135 = some (.invokestatic 76, 3) := by decide +kernel
theorem c213_138 : qcd 213 138 = some (.istore 8, 2) := by decide +kernel
theorem c213_140 : qcd 213 140 = some (.aload_n 3, 1) := by decide +kernel
theorem c213_141 : qcd 213 141 = some (.aload_n 0, 1) := by decide +kernel
theorem c213_142 : qcd 213 142 = some (.getfield 32, 3) := by decide +kernel
theorem c213_145 : qcd 213 145 = some (.iload 6, 2) := by decide +kernel
theorem c213_147 : qcd 213 147 = some (.iaload, 1) := by decide +kernel
theorem c213_148 : qcd 213 148 = some (.iload 8, 2) := by decide +kernel
theorem c213_150 : qcd 213 150 = some (.iastore, 1) := by decide +kernel
theorem c213_151 : qcd 213 151 = some (.aload_n 3, 1) := by decide +kernel
theorem c213_152 : qcd 213 152 = some (.aload_n 0, 1) := by decide +kernel
theorem c213_153 : qcd 213 153 = some (.getfield 35, 3) := by decide +kernel
theorem c213_156 : qcd 213 156 = some (.iload 6, 2) := by decide +kernel
theorem c213_158 : qcd 213 158 = some (.iaload, 1) := by decide +kernel
theorem c213_159 : qcd 213 159 = some (.iload 8, 2) := by decide +kernel
theorem c213_161 : qcd 213 161 = some (.iastore, 1) := by decide +kernel
theorem c213_162 : qcd 213 162 = some (.iconst 1, 1) := by decide +kernel
theorem c213_163 : qcd 213 163 = some (.istore 4, 2) := by decide +kernel
theorem c213_165 : qcd 213 165 = some (.iinc 6 1, 3) := by decide +kernel
theorem c213_168 : qcd 213 168 = some (.goto (-118), 3) := by decide +kernel
theorem c213_171 : qcd 213 171 = some (.iinc 5 1, 3) := by decide +kernel
theorem c213_174 : qcd 213 174 = some (.goto (-144), 3) := by decide +kernel
theorem c213_177 : qcd 213 177 = some (.return_, 1) := by decide +kernel
theorem c214_0 : qcd 214 0 = some (.iload_n 1, 1) := by decide +kernel
theorem c214_1 : qcd 214 1 = some (.ifCond .lt 15, 3) := by decide +kernel
theorem c214_4 : qcd 214 4 = some (.iload_n 1, 1) := by decide +kernel
theorem c214_5 : qcd 214 5 = some (.aload_n 0, 1) := by decide +kernel
theorem c214_6 : qcd 214 6 = some (.getfield 62, 3) := by decide +kernel
theorem c214_9 : qcd 214 9 = some (.if_icmp .ge 7, 3) := by decide +kernel
theorem c214_12 : qcd 214 12 = some (.iconst 1, 1) := by decide +kernel
theorem c214_13 : qcd 214 13 = some (.goto 4, 3) := by decide +kernel
theorem c214_16 : qcd 214 16 = some (.iconst 0, 1) := by decide +kernel
theorem c214_17 : qcd 214 17 = some (.ireturn, 1) := by decide +kernel
theorem c215_0 : qcd 215 0 = some (.iload_n 1, 1) := by decide +kernel
theorem c215_1 : qcd 215 1 = some (.ifCond .lt 15, 3) := by decide +kernel
theorem c215_4 : qcd 215 4 = some (.iload_n 1, 1) := by decide +kernel
theorem c215_5 : qcd 215 5 = some (.aload_n 0, 1) := by decide +kernel
theorem c215_6 : qcd 215 6 = some (.getfield 65, 3) := by decide +kernel
theorem c215_9 : qcd 215 9 = some (.if_icmp .ge 7, 3) := by decide +kernel
theorem c215_12 : qcd 215 12 = some (.iconst 1, 1) := by decide +kernel
theorem c215_13 : qcd 215 13 = some (.goto 4, 3) := by decide +kernel
theorem c215_16 : qcd 215 16 = some (.iconst 0, 1) := by decide +kernel
theorem c215_17 : qcd 215 17 = some (.ireturn, 1) := by decide +kernel
theorem c216_0 : qcd 216 0 = some (.iload_n 1, 1) := by decide +kernel
theorem c216_1 : qcd 216 1 = some (.ifCond .lt 15, 3) := by decide +kernel
theorem c216_4 : qcd 216 4 = some (.iload_n 1, 1) := by decide +kernel
theorem c216_5 : qcd 216 5 = some (.aload_n 0, 1) := by decide +kernel
theorem c216_6 : qcd 216 6 = some (.getfield 68, 3) := by decide +kernel
theorem c216_9 : qcd 216 9 = some (.if_icmp .ge 7, 3) := by decide +kernel
theorem c216_12 : qcd 216 12 = some (.iconst 1, 1) := by decide +kernel
theorem c216_13 : qcd 216 13 = some (.goto 4, 3) := by decide +kernel
theorem c216_16 : qcd 216 16 = some (.iconst 0, 1) := by decide +kernel
theorem c216_17 : qcd 216 17 = some (.ireturn, 1) := by decide +kernel
theorem c217_0 : qcd 217 0 = some (.aload_n 0, 1) := by decide +kernel
theorem c217_1 : qcd 217 1 = some (.invokespecial 3, 3) := by decide +kernel
theorem c217_4 : qcd 217 4 = some (.aload_n 0, 1) := by decide +kernel
theorem c217_5 : qcd 217 5 = some (.bipush 100, 2) := by decide +kernel
theorem c217_7 : qcd 217 7 = some (.putfield 9, 3) := by decide +kernel
theorem c217_10 : qcd 217 10 = some (.aload_n 0, 1) := by decide +kernel
theorem c217_11 : qcd 217 11 = some (.new 15, 3) := by decide +kernel
theorem c217_14 : qcd 217 14 = some (.dup, 1) := by decide +kernel
theorem c217_15 : qcd 217 15 = some (.invokespecial 17, 3) := by decide +kernel
theorem c217_18 : qcd 217 18 = some (.putfield 18, 3) := by decide +kernel
theorem c217_21 : qcd 217 21 = some (.aload_n 0, 1) := by decide +kernel
theorem c217_22 : qcd 217 22 = some (.bipush 8, 2) := by decide +kernel
theorem c217_24 : qcd 217 24 = some (.newarray .int, 2) := by decide +kernel
theorem c217_26 : qcd 217 26 = some (.putfield 22, 3) := by decide +kernel
theorem c217_29 : qcd 217 29 = some (.aload_n 0, 1) := by decide +kernel
theorem c217_30 : qcd 217 30 = some (.bipush 8, 2) := by decide +kernel
theorem c217_32 : qcd 217 32 = some (.newarray .int, 2) := by decide +kernel
theorem c217_34 : qcd 217 34 = some (.putfield 26, 3) := by decide +kernel
theorem c217_37 : qcd 217 37 = some (.aload_n 0, 1) := by decide +kernel
theorem c217_38 : qcd 217 38 = some (.bipush 8, 2) := by decide +kernel
theorem c217_40 : qcd 217 40 = some (.newarray .int, 2) := by decide +kernel
theorem c217_42 : qcd 217 42 = some (.putfield 29, 3) := by decide +kernel
theorem c217_45 : qcd 217 45 = some (.aload_n 0, 1) := by decide +kernel
theorem c217_46 : qcd 217 46 = some (.bipush 14, 2) := by decide +kernel
theorem c217_48 : qcd 217 48 = some (.newarray .int, 2) := by decide +kernel
theorem c217_50 : qcd 217 50 = some (.putfield 32, 3) := by decide +kernel
theorem c217_53 : qcd 217 53 = some (.aload_n 0, 1) := by decide +kernel
theorem c217_54 : qcd 217 54 = some (.bipush 14, 2) := by decide +kernel
theorem c217_56 : qcd 217 56 = some (.newarray .int, 2) := by decide +kernel
theorem c217_58 : qcd 217 58 = some (.putfield 35, 3) := by decide +kernel
theorem c217_61 : qcd 217 61 = some (.aload_n 0, 1) := by decide +kernel
theorem c217_62 : qcd 217 62 = some (.bipush 14, 2) := by decide +kernel
theorem c217_64 : qcd 217 64 = some (.newarray .int, 2) := by decide +kernel
theorem c217_66 : qcd 217 66 = some (.putfield 38, 3) := by decide +kernel
theorem c217_69 : qcd 217 69 = some (.aload_n 0, 1) := by decide +kernel
theorem c217_70 : qcd 217 70 = some (.bipush 14, 2) := by decide +kernel
theorem c217_72 : qcd 217 72 = some (.newarray .int, 2) := by decide +kernel
theorem c217_74 : qcd 217 74 = some (.putfield 41, 3) := by decide +kernel
theorem c217_77 : qcd 217 77 = some (.aload_n 0, 1) := by decide +kernel
theorem c217_78 : qcd 217 78 = some (.bipush 14, 2) := by decide +kernel
theorem c217_80 : qcd 217 80 = some (.newarray .int, 2) := by decide +kernel
theorem c217_82 : qcd 217 82 = some (.putfield 44, 3) := by decide +kernel
theorem c217_85 : qcd 217 85 = some (.aload_n 0, 1) := by decide +kernel
theorem c217_86 : qcd 217 86 = some (.bipush 14, 2) := by decide +kernel
theorem c217_88 : qcd 217 88 = some (.newarray .int, 2) := by decide +kernel
theorem c217_90 : qcd 217 90 = some (.putfield 47, 3) := by decide +kernel
theorem c217_93 : qcd 217 93 = some (.aload_n 0, 1) := by decide +kernel
theorem c217_94 : qcd 217 94 = some (.bipush 9, 2) := by decide +kernel
theorem c217_96 : qcd 217 96 = some (.newarray .int, 2) := by decide +kernel
theorem c217_98 : qcd 217 98 = some (.putfield 50, 3) := by decide +kernel
theorem c217_101 : qcd 217 101 = some (.aload_n 0, 1) := by decide +kernel
theorem c217_102 : qcd 217 102 = some (.bipush 9, 2) := by decide +kernel
theorem c217_104 : qcd 217 104 = some (.newarray .int, 2) := by decide +kernel
theorem c217_106 : qcd 217 106 = some (.putfield 53, 3) := by decide +kernel
theorem c217_109 : qcd 217 109 = some (.aload_n 0, 1) := by decide +kernel
theorem c217_110 : qcd 217 110 = some (.bipush 9, 2) := by decide +kernel
theorem c217_112 : qcd 217 112 = some (.newarray .int, 2) := by decide +kernel
theorem c217_114 : qcd 217 114 = some (.putfield 56, 3) := by decide +kernel
theorem c217_117 : qcd 217 117 = some (.aload_n 0, 1) := by decide +kernel
theorem c217_118 : qcd 217 118 = some (.bipush 9, 2) := by decide +kernel
theorem c217_120 : qcd 217 120 = some (.newarray .int, 2) := by decide +kernel
theorem c217_122 : qcd 217 122 = some (.putfield 59, 3) := by decide +kernel
theorem c217_125 : qcd 217 125 = some (.return_, 1) := by decide +kernel
theorem c218_0 : qcd 218 0 = some (.aload_n 0, 1) := by decide +kernel
theorem c218_1 : qcd 218 1 = some (.getfield 22, 3) := by decide +kernel
theorem c218_4 : qcd 218 4 = some (.aload_n 0, 1) := by decide +kernel
theorem c218_5 : qcd 218 5 = some (.getfield 32, 3) := by decide +kernel
theorem c218_8 : qcd 218 8 = some (.iload_n 1, 1) := by decide +kernel
theorem c218_9 : qcd 218 9 = some (.iaload, 1) := by decide +kernel
theorem c218_10 : qcd 218 10 = some (.iaload, 1) := by decide +kernel
theorem c218_11 : qcd 218 11 = some (.iload_n 2, 1) := by decide +kernel
theorem c218_12 : qcd 218 12 = some (.if_icmp .eq 18, 3) := by decide +kernel
theorem c218_15 : qcd 218 15 = some (.aload_n 0, 1) := by decide +kernel
theorem c218_16 : qcd 218 16 = some (.getfield 22, 3) := by decide +kernel
theorem c218_19 : qcd 218 19 = some (.aload_n 0, 1) := by decide +kernel
theorem c218_20 : qcd 218 20 = some (.getfield 35, 3) := by decide +kernel
theorem c218_23 : qcd 218 23 = some (.iload_n 1, 1) := by decide +kernel
theorem c218_24 : qcd 218 24 = some (.iaload, 1) := by decide +kernel
theorem c218_25 : qcd 218 25 = some (.iaload, 1) := by decide +kernel
theorem c218_26 : qcd 218 26 = some (.iload_n 2, 1) := by decide +kernel
theorem c218_27 : qcd 218 27 = some (.if_icmp .ne 7, 3) := by decide +kernel
theorem c218_30 : qcd 218 30 = some (.iconst 1, 1) := by decide +kernel
theorem c218_31 : qcd 218 31 = some (.goto 4, 3) := by decide +kernel
theorem c218_34 : qcd 218 34 = some (.iconst 0, 1) := by decide +kernel
theorem c218_35 : qcd 218 35 = some (.ireturn, 1) := by decide +kernel
theorem c219_0 : qcd 219 0 = some (.aload_n 0, 1) := by decide +kernel
theorem c219_1 : qcd 219 1 = some (.getfield 12, 3) := by decide +kernel
theorem c219_4 : qcd 219 4 = some (.aload_n 1, 1) := by decide +kernel
theorem c219_5 : qcd 219 5 = some (.invokevirtual 31, 3) := by decide +kernel
theorem c219_8 : qcd 219 8 = some (.aload_n 0, 1) := by decide +kernel
theorem c219_9 : qcd 219 9 = some (.iconst 1, 1) := by decide +kernel
theorem c219_10 : qcd 219 10 = some (.putfield 35, 3) := by decide +kernel
theorem c219_13 : qcd 219 13 = some (.return_, 1) := by decide +kernel
theorem c220_0 : qcd 220 0 = some (.iconst 0, 1) := by decide +kernel
theorem c220_1 : qcd 220 1 = some (.istore_n 2, 1) := by decide +kernel
theorem c220_2 : qcd 220 2 = some (.iload_n 2, 1) := by decide +kernel
theorem c220_3 : qcd 220 3 = some (.aload_n 1, 1) := by decide +kernel
theorem c220_4 : qcd 220 4 = some (.getfield 95, 3) := by decide +kernel
theorem c220_7 : qcd 220 7 = some (.if_icmp .ge 158, 3) := by decide +kernel
theorem c220_10 : qcd 220 10 = some (.aload_n 0, 1) := by decide +kernel
theorem c220_11 : qcd 220 11 = some (.getfield 12, 3) := by decide +kernel
theorem c220_14 : qcd 220 14 = some (.getfield 100, 3) := by decide +kernel
theorem c220_17 : qcd 220 17 = some (.iload_n 2, 1) := by decide +kernel
theorem c220_18 : qcd 220 18 = some (.iaload, 1) := by decide +kernel
theorem c220_19 : qcd 220 19 = some (.ifCond .eq 6, 3) := by decide +kernel
theorem c220_22 : qcd 220 22 = some (.goto 137, 3) := by decide +kernel
theorem c220_25 : qcd 220 25 = some (.aload_n 0, 1) := by decide +kernel
theorem c220_26 : qcd 220 26 = some (.getfield 27, 3) := by decide +kernel
theorem c220_29 : qcd 220 29 = some (.iconst 1, 1) := by decide +kernel
theorem c220_30 : qcd 220 30 = some (.iload_n 2, 1) := by decide +kernel
theorem c220_31 : qcd 220 31 = some (.i2l, 1) := by decide +kernel
theorem c220_32 : qcd 220 32 = some (.lastore, 1) := by decide +kernel
theorem c220_33 : qcd 220 33 = some (.aload_n 0, 1) := by decide +kernel
theorem c220_34 : qcd 220 34 = some (.getfield 27, 3) := by decide +kernel
theorem c220_37 : qcd 220 37 = some (.iconst 2, 1) := by decide +kernel
theorem c220_38 : qcd 220 38 = some (.aload_n 1, 1) := by decide +kernel
theorem c220_39 : qcd 220 39 = some (.getfield 139, 3) := by decide +kernel
theorem c220_42 : qcd 220 42 = some (.aload_n 1, 1) := by decide +kernel
theorem c220_43 : qcd 220 43 = some (.getfield 142, 3) := by decide +kernel
theorem c220_46 : qcd 220 46 = some (.iload_n 2, 1) := by decide +kernel
theorem c220_47 : qcd 220 47 = some (.iaload, 1) := by decide +kernel
theorem c220_48 : qcd 220 48 = some (.iaload, 1) := by decide +kernel
theorem c220_49 : qcd 220 49 = some (.i2l, 1) := by decide +kernel
theorem c220_50 : qcd 220 50 = some (.lastore, 1) := by decide +kernel
theorem c220_51 : qcd 220 51 = some (.aload_n 0, 1) := by decide +kernel
theorem c220_52 : qcd 220 52 = some (.getfield 27, 3) := by decide +kernel
theorem c220_55 : qcd 220 55 = some (.iconst 3, 1) := by decide +kernel
theorem c220_56 : qcd 220 56 = some (.aload_n 0, 1) := by decide +kernel
theorem c220_57 : qcd 220 57 = some (.getfield 21, 3) := by decide +kernel
theorem c220_60 : qcd 220 60 = some (.getfield 145, 3) := by decide +kernel
theorem c220_63 : qcd 220 63 = some (.aload_n 1, 1) := by decide +kernel
theorem c220_64 : qcd 220 64 = some (.getfield 142, 3) := by decide +kernel
theorem c220_67 : qcd 220 67 = some (.iload_n 2, 1) := by decide +kernel
theorem c220_68 : qcd 220 68 = some (.iaload, 1) := by decide +kernel
theorem c220_69 : qcd 220 69 = some (.iaload, 1) := by decide +kernel
theorem c220_70 : qcd 220 70 = some (.i2l, 1) := by decide +kernel
theorem c220_71 : qcd 220 71 = some (.lastore, 1) := by decide +kernel
theorem c220_72 : qcd 220 72 = some (.aload_n 0, 1) := by decide +kernel
theorem c220_73 : qcd 220 73 = some (.getfield 27, 3) := by decide +kernel
theorem c220_76 : qcd 220 76 = some (.bipush 6, 2) := by decide +kernel
theorem c220_78 : qcd 220 78 = some (.aload_n 0, 1) := by decide +kernel
theorem c220_79 : qcd 220 79 = some (.getfield 21, 3) := by decide +kernel
theorem c220_82 : qcd 220 82 = some (.getfield 106, 3) := by decide +kernel
theorem c220_85 : qcd 220 85 = some (.iload_n 2, 1) := by decide +kernel
theorem c220_86 : qcd 220 86 = some (.laload, 1) := by decide +kernel
theorem c220_87 : qcd 220 87 = some (.invokestatic 109, 3) := by decide +kernel
theorem c220_90 : qcd 220 90 = some (.lastore, 1) := by decide +kernel
theorem c220_91 : qcd 220 91 = some (.aload_n 0, 1) := by decide +kernel
theorem c220_92 : qcd 220 92 = some (.getfield 27, 3) := by decide +kernel
theorem c220_95 : qcd 220 95 = some (.bipush 7, 2) := by decide +kernel
theorem c220_97 : qcd 220 97 = some (.aload_n 1, 1) := by decide +kernel
theorem c220_98 : qcd 220 98 = some (.getfield 103, 3) := by decide +kernel
theorem c220_101 : qcd 220 101 = some (.iload_n 2, 1) := by decide +kernel
theorem c220_102 : qcd 220 102 = some (.iaload, 1) := by decide +kernel
theorem c220_103 : qcd 220 103 = some (.i2l, 1) := by decide +kernel
theorem c220_104 : qcd 220 104 = some (.lastore, 1) := by decide +kernel
theorem c220_105 : qcd 220 105 = some (.aload_n 0, 1) := by decide +kernel
theorem c220_106 : qcd 220 106 = some (.getfield 27, 3) := by decide +kernel
theorem c220_109 : qcd 220 109 = some (.bipush 8, 2) := by decide +kernel
theorem c220_111 : qcd 220 111 = some (.aload_n 0, 1) := by decide +kernel
theorem c220_112 : qcd 220 112 = some (.getfield 12, 3) := by decide +kernel
theorem c220_115 : qcd 220 115 = some (.getfield 115, 3) := by decide +kernel
theorem c220_118 : qcd 220 118 = some (.iload_n 2, 1) := by decide +kernel
theorem c220_119 : qcd 220 119 = some (.iaload, 1) := by decide +kernel
theorem c220_120 : qcd 220 120 = some (.i2l, 1) := by decide +kernel
theorem c220_121 : qcd 220 121 = some (.lastore, 1) := by decide +kernel
theorem c220_122 : qcd 220 122 = some (.aload_n 1, 1) := by decide +kernel
theorem c220_123 : qcd 220 123 = some (.getfield 148, 3) := by decide +kernel
theorem c220_126 : qcd 220 126 = some (.iconst 0, 1) := by decide +kernel
theorem c220_127 : qcd 220 127 = some (.aload_n 0, 1) := by decide +kernel
theorem c220_128 : qcd 220 128 = some (.getfield 27, 3) := by decide +kernel
theorem c220_131 : qcd 220 131 = some (.invokevirtual 152, 3) := by decide +kernel
theorem c220_134 : qcd 220 134 = some (.ifCond .eq 25, 3) := by decide +kernel
theorem c220_137 : qcd 220 137 = some (.aload_n 0, 1) := by decide +kernel
theorem c220_138 : qcd 220 138 = some (.getfield 12, 3) := by decide +kernel
theorem c220_141 : qcd 220 141 = some (.getfield 100, 3) := by decide +kernel
theorem c220_144 : qcd 220 144 = some (.iload_n 2, 1) := by decide +kernel
theorem c220_145 : qcd 220 145 = some (.iconst 2, 1) := by decide +kernel
theorem c220_146 : qcd 220 146 = some (.iastore, 1) := by decide +kernel
theorem c220_147 : qcd 220 147 = some (.aload_n 0, 1) := by decide +kernel
theorem c220_148 : qcd 220 148 = some (.dup, 1) := by decide +kernel
theorem c220_149 : qcd 220 149 = some (.getfield 51, 3) := by decide +kernel
theorem c220_152 : qcd 220 152 = some (.iconst 1, 1) := by decide +kernel
theorem c220_153 : qcd 220 153 = some (.iload_n 2, 1) := by decide +kernel
theorem c220_154 : qcd 220 154 = some (.ishl, 1) := by decide +kernel
theorem c220_155 : qcd 220 155 = some (.ior, 1) := by decide +kernel
theorem c220_156 : qcd 220 156 = some (.putfield 51, 3) := by decide +kernel
theorem c220_159 : qcd 220 159 = some (.iinc 2 1, 3) := by decide +kernel
theorem c220_162 : qcd 220 162 = some (.goto (-160), 3) := by decide +kernel
theorem c220_165 : qcd 220 165 = some (.return_, 1) := by decide +kernel
theorem c221_0 : qcd 221 0 = some (.iconst 0, 1) := by decide +kernel
theorem c221_1 : qcd 221 1 = some (.istore_n 2, 1) := by decide +kernel
theorem c221_2 : qcd 221 2 = some (.iload_n 2, 1) := by decide +kernel
theorem c221_3 : qcd 221 3 = some (.aload_n 1, 1) := by decide +kernel
theorem c221_4 : qcd 221 4 = some (.getfield 156, 3) := by decide +kernel
theorem c221_7 : qcd 221 7 = some (.if_icmp .ge 145, 3) := by decide +kernel
theorem c221_10 : qcd 221 10 = some (.aload_n 0, 1) := by decide +kernel
theorem c221_11 : qcd 221 11 = some (.getfield 12, 3) := by decide +kernel
theorem c221_14 : qcd 221 14 = some (.iload_n 2, 1) := by decide +kernel
theorem c221_15 : qcd 221 15 = some (.invokevirtual 159, 3) := by decide +kernel
theorem c221_18 : qcd 221 18 = some (.ifCond .ne 6, 3) := by decide +kernel
theorem c221_21 : qcd 221 21 = some (.goto 125, 3) := by decide +kernel
theorem c221_24 : qcd 221 24 = some (.aload_n 0, 1) := by decide +kernel
theorem c221_25 : qcd 221 25 = some (.getfield 27, 3) := by decide +kernel
theorem c221_28 : qcd 221 28 = some (.iconst 1, 1) := by decide +kernel
theorem c221_29 : qcd 221 29 = some (.iload_n 2, 1) := by decide +kernel
theorem c221_30 : qcd 221 30 = some (.i2l, 1) := by decide +kernel
theorem c221_31 : qcd 221 31 = some (.lastore, 1) := by decide +kernel
theorem c221_32 : qcd 221 32 = some (.aload_n 0, 1) := by decide +kernel
theorem c221_33 : qcd 221 33 = some (.getfield 27, 3) := by decide +kernel
theorem c221_36 : qcd 221 36 = some (.iconst 2, 1) := by decide +kernel
theorem c221_37 : qcd 221 37 = some (.aload_n 1, 1) := by decide +kernel
theorem c221_38 : qcd 221 38 = some (.getfield 139, 3) := by decide +kernel
theorem c221_41 : qcd 221 41 = some (.aload_n 1, 1) := by decide +kernel
theorem c221_42 : qcd 221 42 = some (.getfield 163, 3) := by decide +kernel
theorem c221_45 : qcd 221 45 = some (.iload_n 2, 1) := by decide +kernel
theorem c221_46 : qcd 221 46 = some (.iaload, 1) := by decide +kernel
theorem c221_47 : qcd 221 47 = some (.iaload, 1) := by decide +kernel
theorem c221_48 : qcd 221 48 = some (.i2l, 1) := by decide +kernel
theorem c221_49 : qcd 221 49 = some (.lastore, 1) := by decide +kernel
theorem c221_50 : qcd 221 50 = some (.aload_n 0, 1) := by decide +kernel
theorem c221_51 : qcd 221 51 = some (.getfield 27, 3) := by decide +kernel
theorem c221_54 : qcd 221 54 = some (.iconst 3, 1) := by decide +kernel
theorem c221_55 : qcd 221 55 = some (.aload_n 0, 1) := by decide +kernel
theorem c221_56 : qcd 221 56 = some (.getfield 21, 3) := by decide +kernel
theorem c221_59 : qcd 221 59 = some (.getfield 145, 3) := by decide +kernel
theorem c221_62 : qcd 221 62 = some (.aload_n 1, 1) := by decide +kernel
theorem c221_63 : qcd 221 63 = some (.getfield 163, 3) := by decide +kernel
theorem c221_66 : qcd 221 66 = some (.iload_n 2, 1) := by decide +kernel
theorem c221_67 : qcd 221 67 = some (.iaload, 1) := by decide +kernel
theorem c221_68 : qcd 221 68 = some (.iaload, 1) := by decide +kernel
theorem c221_69 : qcd 221 69 = some (.i2l, 1) := by decide +kernel
theorem c221_70 : qcd 221 70 = some (.lastore, 1) := by decide +kernel
theorem c221_71 : qcd 221 71 = some (.aload_n 0, 1) := by decide +kernel
theorem c221_72 : qcd 221 72 = some (.getfield 27, 3) := by decide +kernel
theorem c221_75 : qcd 221 75 = some (.bipush 9, 2) := by decide +kernel
theorem c221_77 : qcd 221 77 = some (.aload_n 0, 1) := by decide +kernel
theorem c221_78 : qcd 221 78 = some (.getfield 21, 3) := by decide +kernel
theorem c221_81 : qcd 221 81 = some (.getfield 166, 3) := by decide +kernel
theorem c221_84 : qcd 221 84 = some (.iload_n 2, 1) := by decide +kernel
theorem c221_85 : qcd 221 85 = some (.iaload, 1) := by decide +kernel
theorem c221_86 : qcd 221 86 = some (.i2l, 1) := by decide +kernel
theorem c221_87 : qcd 221 87 = some (.lastore, 1) := by decide +kernel
theorem c221_88 : qcd 221 88 = some (.aload_n 0, 1) := by decide +kernel
theorem c221_89 : qcd 221 89 = some (.getfield 27, 3) := by decide +kernel
theorem c221_92 : qcd 221 92 = some (.bipush 10, 2) := by decide +kernel
theorem c221_94 : qcd 221 94 = some (.aload_n 1, 1) := by decide +kernel
theorem c221_95 : qcd 221 95 = some (.getfield 169, 3) := by decide +kernel
theorem c221_98 : qcd 221 98 = some (.iload_n 2, 1) := by decide +kernel
theorem c221_99 : qcd 221 99 = some (.iaload, 1) := by decide +kernel
theorem c221_100 : qcd 221 100 = some (.i2l, 1) := by decide +kernel
theorem c221_101 : qcd 221 101 = some (.lastore, 1) := by decide +kernel
theorem c221_102 : qcd 221 102 = some (.aload_n 1, 1) := by decide +kernel
theorem c221_103 : qcd 221 103 = some (.getfield 148, 3) := by decide +kernel
theorem c221_106 : qcd 221 106 = some (.iconst 1, 1) := by decide +kernel
theorem c221_107 : qcd 221 107 = some (.aload_n 0, 1) := by decide +kernel
theorem c221_108 : qcd 221 108 = some (.getfield 27, 3) := by decide +kernel
theorem c221_111 : qcd 221 111 = some (.invokevirtual 152, 3) := by decide +kernel
theorem c221_114 : qcd 221 114 = some (.ifCond .eq 32, 3) := by decide +kernel
theorem c221_117 : qcd 221 117 = some (.aload_n 0, 1) := by decide +kernel
theorem c221_118 : qcd 221 118 = some (.getfield 12, 3) := by decide +kernel
theorem c221_121 : qcd 221 121 = some (.dup, 1) := by decide +kernel
theorem c221_122 : qcd 221 122 = some (.getfield 172, 3) := by decide +kernel
theorem c221_125 : qcd 221 125 = some (.iconst 1, 1) := by decide +kernel
theorem c221_126 : qcd 221 126 = some (.iload_n 2, 1) := by decide +kernel
theorem c221_127 : qcd 221 127 = some (.ishl, 1) := by decide +kernel
theorem c221_128 : qcd 221 128 = some (.iconst (-1), 1) := by decide +kernel
theorem c221_129 : qcd 221 129 = some (.ixor, 1) := by decide +kernel
theorem c221_130 : qcd 221 130 = some (.iand, 1) := by decide +kernel
theorem c221_131 : qcd 221 131 = some (.putfield 172, 3) := by decide +kernel
theorem c221_134 : qcd 221 134 = some (.aload_n 0, 1) := by decide +kernel
theorem c221_135 : qcd 221 135 = some (.dup, 1) := by decide +kernel
theorem c221_136 : qcd 221 136 = some (.getfield 54, 3) := by decide +kernel
theorem c221_139 : qcd 221 139 = some (.iconst 1, 1) := by decide +kernel
theorem c221_140 : qcd 221 140 = some (.iload_n 2, 1) := by decide +kernel
theorem c221_141 : qcd 221 141 = some (.ishl, 1) := by decide +kernel
theorem c221_142 : qcd 221 142 = some (.ior, 1) := by decide +kernel
theorem c221_143 : qcd 221 143 = some (.putfield 54, 3) := by decide +kernel
theorem c221_146 : qcd 221 146 = some (.iinc 2 1, 3) := by decide +kernel
theorem c221_149 : qcd 221 149 = some (.goto (-147), 3) := by decide +kernel
theorem c221_152 : qcd 221 152 = some (.return_, 1) := by decide +kernel
theorem c222_0 : qcd 222 0 = some (.iload_n 1, 1) := by decide +kernel
theorem c222_1 : qcd 222 1 = some (.iconst 1, 1) := by decide +kernel
theorem c222_2 : qcd 222 2 = some (.if_icmp .ne 21, 3) := by decide +kernel
theorem c222_5 : qcd 222 5 = some (.aload_n 0, 1) := by decide +kernel
theorem c222_6 : qcd 222 6 = some (.getfield 48, 3) := by decide +kernel
theorem c222_9 : qcd 222 9 = some (.iload_n 2, 1) := by decide +kernel
theorem c222_10 : qcd 222 10 = some (.ishr, 1) := by decide +kernel
theorem c222_11 : qcd 222 11 = some (.iconst 1, 1) := by decide +kernel
theorem c222_12 : qcd 222 12 = some (.iand, 1) := by decide +kernel
theorem c222_13 : qcd 222 13 = some (.iconst 1, 1) := by decide +kernel
theorem c222_14 : qcd 222 14 = some (.if_icmp .ne 7, 3) := by decide +kernel
theorem c222_17 : qcd 222 17 = some (.iconst 1, 1) := by decide +kernel
theorem c222_18 : qcd 222 18 = some (.goto 4, 3) := by decide +kernel
theorem c222_21 : qcd 222 21 = some (.iconst 0, 1) := by decide +kernel
theorem c222_22 : qcd 222 22 = some (.ireturn, 1) := by decide +kernel
theorem c222_23 : qcd 222 23 = some (.iload_n 1, 1) := by decide +kernel
theorem c222_24 : qcd 222 24 = some (.iconst 2, 1) := by decide +kernel
theorem c222_25 : qcd 222 25 = some (.if_icmp .ne 21, 3) := by decide +kernel
theorem c222_28 : qcd 222 28 = some (.aload_n 0, 1) := by decide +kernel
theorem c222_29 : qcd 222 29 = some (.getfield 51, 3) := by decide +kernel
theorem c222_32 : qcd 222 32 = some (.iload_n 2, 1) := by decide +kernel
theorem c222_33 : qcd 222 33 = some (.ishr, 1) := by decide +kernel
theorem c222_34 : qcd 222 34 = some (.iconst 1, 1) := by decide +kernel
theorem c222_35 : qcd 222 35 = some (.iand, 1) := by decide +kernel
theorem c222_36 : qcd 222 36 = some (.iconst 1, 1) := by decide +kernel
theorem c222_37 : qcd 222 37 = some (.if_icmp .ne 7, 3) := by decide +kernel
theorem c222_40 : qcd 222 40 = some (.iconst 1, 1) := by decide +kernel
theorem c222_41 : qcd 222 41 = some (.goto 4, 3) := by decide +kernel
theorem c222_44 : qcd 222 44 = some (.iconst 0, 1) := by decide +kernel
theorem c222_45 : qcd 222 45 = some (.ireturn, 1) := by decide +kernel
theorem c222_46 : qcd 222 46 = some (.iload_n 1, 1) := by decide +kernel
theorem c222_47 : qcd 222 47 = some (.iconst 3, 1) := by decide +kernel
theorem c222_48 : qcd 222 48 = some (.if_icmp .ne 21, 3) := by decide +kernel
theorem c222_51 : qcd 222 51 = some (.aload_n 0, 1) := by decide +kernel
theorem c222_52 : qcd 222 52 = some (.getfield 54, 3) := by decide +kernel
theorem c222_55 : qcd 222 55 = some (.iload_n 2, 1) := by decide +kernel
theorem c222_56 : qcd 222 56 = some (.ishr, 1) := by decide +kernel
theorem c222_57 : qcd 222 57 = some (.iconst 1, 1) := by decide +kernel
theorem c222_58 : qcd 222 58 = some (.iand, 1) := by decide +kernel
theorem c222_59 : qcd 222 59 = some (.iconst 1, 1) := by decide +kernel
theorem c222_60 : qcd 222 60 = some (.if_icmp .ne 7, 3) := by decide +kernel
theorem c222_63 : qcd 222 63 = some (.iconst 1, 1) := by decide +kernel
theorem c222_64 : qcd 222 64 = some (.goto 4, 3) := by decide +kernel
theorem c222_67 : qcd 222 67 = some (.iconst 0, 1) := by decide +kernel
theorem c222_68 : qcd 222 68 = some (.ireturn, 1) := by decide +kernel
theorem c222_69 : qcd 222 69 = some (.iconst 0, 1) := by decide +kernel
theorem c222_70 : qcd 222 70 = some (.istore_n 3, 1) := by decide +kernel
theorem c222_71 : qcd 222 71 = some (.iload_n 3, 1) := by decide +kernel
theorem c222_72 : qcd 222 72 = some (.aload_n 0, 1) := by decide +kernel
theorem c222_73 : qcd 222 73 = some (.getfield 21, 3) := by decide +kernel
theorem c222_76 : qcd 222 76 = some (.getfield 85, 3) := by decide +kernel
theorem c222_79 : qcd 222 79 = some (.if_icmp .ge 24, 3) := by decide +kernel
theorem c222_82 : qcd 222 82 = some (.aload_n 0, 1) := by decide +kernel
theorem c222_83 : qcd 222 83 = some (.getfield 21, 3) := by decide +kernel
theorem c222_86 : qcd 222 86 = some (.getfield 91, 3) := by decide +kernel
theorem c222_89 : qcd 222 89 = some (.iload_n 3, 1) := by decide +kernel
theorem c222_90 : qcd 222 90 = some (.iaload, 1) := by decide +kernel
theorem c222_91 : qcd 222 91 = some (.iload_n 2, 1) := by decide +kernel
theorem c222_92 : qcd 222 92 = some (.if_icmp .ne 5, 3) := by decide +kernel
theorem c222_95 : qcd 222 95 = some (.iconst 1, 1) := by decide +kernel
theorem c222_96 : qcd 222 96 = some (.ireturn, 1) := by decide +kernel
theorem c222_97 : qcd 222 97 = some (.iinc 3 1, 3) := by decide +kernel
theorem c222_100 : qcd 222 100 = some (.goto (-29), 3) := by decide +kernel
theorem c222_103 : qcd 222 103 = some (.iconst 0, 1) := by decide +kernel
theorem c222_104 : qcd 222 104 = some (.ireturn, 1) := by decide +kernel
theorem c223_0 : qcd 223 0 = some (.aload_n 0, 1) := by decide +kernel
theorem c223_1 : qcd 223 1 = some (.invokespecial 3, 3) := by decide +kernel
theorem c223_4 : qcd 223 4 = some (.aload_n 0, 1) := by decide +kernel
theorem c223_5 : qcd 223 5 = some (.new 9, 3) := by decide +kernel
theorem c223_8 : qcd 223 8 = some (.dup, 1) := by decide +kernel
theorem c223_9 : qcd 223 9 = some (.invokespecial 11, 3) := by decide +kernel
theorem c223_12 : qcd 223 12 = some (.putfield 12, 3) := by decide +kernel
theorem c223_15 : qcd 223 15 = some (.aload_n 0, 1) := by decide +kernel
theorem c223_16 : qcd 223 16 = some (.new 18, 3) := by decide +kernel
theorem c223_19 : qcd 223 19 = some (.dup, 1) := by decide +kernel
theorem c223_20 : qcd 223 20 = some (.invokespecial 20, 3) := by decide +kernel
theorem c223_23 : qcd 223 23 = some (.putfield 21, 3) := by decide +kernel
theorem c223_26 : qcd 223 26 = some (.aload_n 0, 1) := by decide +kernel
theorem c223_27 : qcd 223 27 = some (.bipush 11, 2) := by decide +kernel
theorem c223_29 : qcd 223 29 = some (.newarray .long, 2) := by decide +kernel
theorem c223_31 : qcd 223 31 = some (.putfield 27, 3) := by decide +kernel
theorem c223_34 : qcd 223 34 = some (.return_, 1) := by decide +kernel
theorem c224_0 : qcd 224 0 = some (.iconst 0, 1) := by decide +kernel
theorem c224_1 : qcd 224 1 = some (.istore_n 2, 1) := by decide +kernel
theorem c224_2 : qcd 224 2 = some (.iload_n 2, 1) := by decide +kernel
theorem c224_3 : qcd 224 3 = some (.aload_n 1, 1) := by decide +kernel
theorem c224_4 : qcd 224 4 = some (.getfield 95, 3) := by decide +kernel
theorem c224_7 : qcd 224 7 = some (.if_icmp .ge 93, 3) := by decide +kernel
theorem c224_10 : qcd 224 10 = some (.aload_n 0, 1) := by decide +kernel
theorem c224_11 : qcd 224 11 = some (.getfield 12, 3) := by decide +kernel
theorem c224_14 : qcd 224 14 = some (.getfield 130, 3) := by decide +kernel
theorem c224_17 : qcd 224 17 = some (.iload_n 2, 1) := by decide +kernel
theorem c224_18 : qcd 224 18 = some (.iaload, 1) := by decide +kernel
theorem c224_19 : qcd 224 19 = some (.ifCond .le 35, 3) := by decide +kernel
theorem c224_22 : qcd 224 22 = some (.aload_n 0, 1) := by decide +kernel
theorem c224_23 : qcd 224 23 = some (.getfield 12, 3) := by decide +kernel
theorem c224_26 : qcd 224 26 = some (.getfield 115, 3) := by decide +kernel
theorem c224_29 : qcd 224 29 = some (.iload_n 2, 1) := by decide +kernel
theorem c224_30 : qcd 224 30 = some (.iaload, 1) := by decide +kernel
theorem c224_31 : qcd 224 31 = some (.aload_n 0, 1) := by decide +kernel
theorem c224_32 : qcd 224 32 = some (.getfield 12, 3) := by decide +kernel
theorem c224_35 : qcd 224 35 = some (.getfield 130, 3) := by decide +kernel
theorem c224_38 : qcd 224 38 = some (.iload_n 2, 1) := by decide +kernel
theorem c224_39 : qcd 224 39 = some (.iaload, 1) := by decide +kernel
theorem c224_40 : qcd 224 40 = some (.iadd, 1) := by decide +kernel
theorem c224_41 : qcd 224 41 = some (.aload_n 1, 1) := by decide +kernel
theorem c224_42 : qcd 224 42 = some (.getfield 133, 3) := by decide +kernel
theorem c224_45 : qcd 224 45 = some (.iload_n 2, 1) := by decide +kernel
theorem c224_46 : qcd 224 46 = some (.iaload, 1) := by decide +kernel
theorem c224_47 : qcd 224 47 = some (.if_icmp .lt 7, 3) := by decide +kernel
theorem c224_50 : qcd 224 50 = some (.iconst 1, 1) := by decide +kernel
theorem c224_51 : qcd 224 51 = some (.goto 4, 3) := by decide +kernel
theorem c224_54 : qcd 224 54 = some (.iconst 0, 1) := by decide +kernel
theorem c224_55 : qcd 224 55 = some (.istore_n 3, 1) := by decide +kernel
theorem c224_56 : qcd 224 56 = some (.aload_n 0, 1) := by decide +kernel
theorem c224_57 : qcd 224 57 = some (.getfield 12, 3) := by decide +kernel
theorem c224_60 : qcd 224 60 = some (.getfield 100, 3) := by decide +kernel
theorem c224_63 : qcd 224 63 = some (.iload_n 2, 1) := by decide +kernel
theorem c224_64 : qcd 224 64 = some (.iaload, 1) := by decide +kernel
theorem c224_65 : qcd 224 65 = some (.ifCond .ne 29, 3) := by decide +kernel
theorem c224_68 : qcd 224 68 = some (.iload_n 3, 1) := by decide +kernel
theorem c224_69 : qcd 224 69 = some (.ifCond .eq 25, 3) := by decide +kernel
theorem c224_72 : qcd 224 72 = some (.aload_n 0, 1) := by decide +kernel
theorem c224_73 : qcd 224 73 = some (.getfield 12, 3) := by decide +kernel
theorem c224_76 : qcd 224 76 = some (.getfield 100, 3) := by decide +kernel
theorem c224_79 : qcd 224 79 = some (.iload_n 2, 1) := by decide +kernel
theorem c224_80 : qcd 224 80 = some (.iconst 3, 1) := by decide +kernel
theorem c224_81 : qcd 224 81 = some (.iastore, 1) := by decide +kernel
theorem c224_82 : qcd 224 82 = some (.aload_n 0, 1) := by decide +kernel
theorem c224_83 : qcd 224 83 = some (.dup, 1) := by decide +kernel
theorem c224_84 : qcd 224 84 = some (.getfield 48, 3) := by decide +kernel
theorem c224_87 : qcd 224 87 = some (.iconst 1, 1) := by decide +kernel
theorem c224_88 : qcd 224 88 = some (.iload_n 2, 1) := by decide +kernel
theorem c224_89 : qcd 224 89 = some (.ishl, 1) := by decide +kernel
theorem c224_90 : qcd 224 90 = some (.ior, 1) := by decide +kernel
theorem c224_91 : qcd 224 91 = some (.putfield 48, 3) := by decide +kernel
theorem c224_94 : qcd 224 94 = some (.iinc 2 1, 3) := by decide +kernel
theorem c224_97 : qcd 224 97 = some (.goto (-95), 3) := by decide +kernel
theorem c224_100 : qcd 224 100 = some (.return_, 1) := by decide +kernel
theorem c225_0 : qcd 225 0 = some (.aload_n 0, 1) := by decide +kernel
theorem c225_1 : qcd 225 1 = some (.getfield 35, 3) := by decide +kernel
theorem c225_4 : qcd 225 4 = some (.ifCond .eq 15, 3) := by decide +kernel
theorem c225_7 : qcd 225 7 = some (.aload_n 0, 1) := by decide +kernel
theorem c225_8 : qcd 225 8 = some (.getfield 21, 3) := by decide +kernel
theorem c225_11 : qcd 225 11 = some (.aload_n 1, 1) := by decide +kernel
theorem c225_12 : qcd 225 12 = some (.aload_n 0, 1) := by decide +kernel
theorem c225_13 : qcd 225 13 = some (.getfield 12, 3) := by decide +kernel
theorem c225_16 : qcd 225 16 = some (.invokevirtual 39, 3) := by decide +kernel
theorem c225_19 : qcd 225 19 = some (.aload_n 0, 1) := by decide +kernel
theorem c225_20 : qcd 225 20 = some (.getfield 12, 3) := by decide +kernel
theorem c225_23 : qcd 225 23 = some (.aload_n 0, 1) := by decide +kernel
theorem c225_24 : qcd 225 24 = some (.getfield 21, 3) := by decide +kernel
theorem c225_27 : qcd 225 27 = some (.getfield 43, 3) := by decide +kernel
theorem c225_30 : qcd 225 30 = some (.putfield 47, 3) := by decide +kernel
theorem c225_33 : qcd 225 33 = some (.aload_n 0, 1) := by decide +kernel
theorem c225_34 : qcd 225 34 = some (.iconst 0, 1) := by decide +kernel
theorem c225_35 : qcd 225 35 = some (.putfield 48, 3) := by decide +kernel
theorem c225_38 : qcd 225 38 = some (.aload_n 0, 1) := by decide +kernel
theorem c225_39 : qcd 225 39 = some (.iconst 0, 1) := by decide +kernel
theorem c225_40 : qcd 225 40 = some (.putfield 51, 3) := by decide +kernel
theorem c225_43 : qcd 225 43 = some (.aload_n 0, 1) := by decide +kernel
theorem c225_44 : qcd 225 44 = some (.iconst 0, 1) := by decide +kernel
theorem c225_45 : qcd 225 45 = some (.putfield 54, 3) := by decide +kernel
theorem c225_48 : qcd 225 48 = some (.aload_n 0, 1) := by decide +kernel
theorem c225_49 : qcd 225 49 = some (.aload_n 1, 1) := by decide +kernel
theorem c225_50 : qcd 225 50 = some (.invokevirtual 57, 3) := by decide +kernel
theorem c225_53 : qcd 225 53 = some (.aload_n 0, 1) := by decide +kernel
theorem c225_54 : qcd 225 54 = some (.aload_n 1, 1) := by decide +kernel
theorem c225_55 : qcd 225 55 = some (.invokevirtual 61, 3) := by decide +kernel
theorem c225_58 : qcd 225 58 = some (.aload_n 0, 1) := by decide +kernel
theorem c225_59 : qcd 225 59 = some (.invokevirtual 64, 3) := by decide +kernel
theorem c225_62 : qcd 225 62 = some (.aload_n 0, 1) := by decide +kernel
theorem c225_63 : qcd 225 63 = some (.aload_n 1, 1) := by decide +kernel
theorem c225_64 : qcd 225 64 = some (.invokevirtual 67, 3) := by decide +kernel
theorem c225_67 : qcd 225 67 = some (.aload_n 0, 1) := by decide +kernel
theorem c225_68 : qcd 225 68 = some (.aload_n 1, 1) := by decide +kernel
theorem c225_69 : qcd 225 69 = some (.invokevirtual 70, 3) := by decide +kernel
theorem c225_72 : qcd 225 72 = some (.aload_n 0, 1) := by decide +kernel
theorem c225_73 : qcd 225 73 = some (.getfield 12, 3) := by decide +kernel
theorem c225_76 : qcd 225 76 = some (.aload_n 0, 1) := by decide +kernel
theorem c225_77 : qcd 225 77 = some (.getfield 48, 3) := by decide +kernel
theorem c225_80 : qcd 225 80 = some (.aload_n 0, 1) := by decide +kernel
theorem c225_81 : qcd 225 81 = some (.getfield 51, 3) := by decide +kernel
theorem c225_84 : qcd 225 84 = some (.ior, 1) := by decide +kernel
theorem c225_85 : qcd 225 85 = some (.invokestatic 73, 3) := by decide +kernel
theorem c225_88 : qcd 225 88 = some (.putfield 79, 3) := by decide +kernel
theorem c225_91 : qcd 225 91 = some (.aload_n 0, 1) := by decide +kernel
theorem c225_92 : qcd 225 92 = some (.getfield 12, 3) := by decide +kernel
theorem c225_95 : qcd 225 95 = some (.dup, 1) := by decide +kernel
theorem c225_96 : qcd 225 96 = some (.getfield 82, 3) := by decide +kernel
theorem c225_99 : qcd 225 99 = some (.iconst 1, 1) := by decide +kernel
theorem c225_100 : qcd 225 100 = some (.iadd, 1) := by decide +kernel
theorem c225_101 : qcd 225 101 = some (.putfield 82, 3) := by decide +kernel
theorem c225_104 : qcd 225 104 = some (.aload_n 0, 1) := by decide +kernel
theorem c225_105 : qcd 225 105 = some (.aload_n 0, 1) := by decide +kernel
theorem c225_106 : qcd 225 106 = some (.getfield 21, 3) := by decide +kernel
theorem c225_109 : qcd 225 109 = some (.getfield 85, 3) := by decide +kernel
theorem c225_112 : qcd 225 112 = some (.aload_n 0, 1) := by decide +kernel
theorem c225_113 : qcd 225 113 = some (.getfield 12, 3) := by decide +kernel
theorem c225_116 : qcd 225 116 = some (.getfield 79, 3) := by decide +kernel
theorem c225_119 : qcd 225 119 = some (.iadd, 1) := by decide +kernel
theorem c225_120 : qcd 225 120 = some (.aload_n 0, 1) := by decide +kernel
theorem c225_121 : qcd 225 121 = some (.getfield 54, 3) := by decide +kernel
theorem c225_124 : qcd 225 124 = some (.invokestatic 73, 3) := by decide +kernel
theorem c225_127 : qcd 225 127 = some (.iadd, 1) := by decide +kernel
theorem c225_128 : qcd 225 128 = some (.putfield 88, 3) := by decide +kernel
theorem c225_131 : qcd 225 131 = some (.aload_n 0, 1) := by decide +kernel
theorem c225_132 : qcd 225 132 = some (.aload_n 0, 1) := by decide +kernel
theorem c225_133 : qcd 225 133 = some (.getfield 88, 3) := by decide +kernel
theorem c225_136 : qcd 225 136 = some (.ifCond .le 7, 3) := by decide +kernel
theorem c225_139 : qcd 225 139 = some (.iconst 1, 1) := by decide +kernel
theorem c225_140 : qcd 225 140 = some (.goto 4, 3) := by decide +kernel
theorem c225_143 : qcd 225 143 = some (.iconst 0, 1) := by decide +kernel
theorem c225_144 : qcd 225 144 = some (.putfield 35, 3) := by decide +kernel
theorem c225_147 : qcd 225 147 = some (.return_, 1) := by decide +kernel
theorem c226_0 : qcd 226 0 = some (.aload_n 0, 1) := by decide +kernel
theorem c226_1 : qcd 226 1 = some (.getfield 27, 3) := by decide +kernel
theorem c226_4 : qcd 226 4 = some (.iconst 0, 1) := by decide +kernel
theorem c226_5 : qcd 226 5 = some (.aload_n 0, 1) := by decide +kernel
theorem c226_6 : qcd 226 6 = some (.getfield 12, 3) := by decide +kernel
theorem c226_9 : qcd 226 9 = some (.getfield 82, 3) := by decide +kernel
theorem c226_12 : qcd 226 12 = some (.i2l, 1) := by decide +kernel
theorem c226_13 : qcd 226 13 = some (.lastore, 1) := by decide +kernel
theorem c226_14 : qcd 226 14 = some (.aload_n 0, 1) := by decide +kernel
theorem c226_15 : qcd 226 15 = some (.getfield 27, 3) := by decide +kernel
theorem c226_18 : qcd 226 18 = some (.iconst 4, 1) := by decide +kernel
theorem c226_19 : qcd 226 19 = some (.aload_n 0, 1) := by decide +kernel
theorem c226_20 : qcd 226 20 = some (.getfield 12, 3) := by decide +kernel
theorem c226_23 : qcd 226 23 = some (.aload_n 0, 1) := by decide +kernel
theorem c226_24 : qcd 226 24 = some (.getfield 12, 3) := by decide +kernel
theorem c226_27 : qcd 226 27 = some (.getfield 47, 3) := by decide +kernel
theorem c226_30 : qcd 226 30 = some (.invokevirtual 136, 3) := by decide +kernel
theorem c226_33 : qcd 226 33 = some (.i2l, 1) := by decide +kernel
theorem c226_34 : qcd 226 34 = some (.lastore, 1) := by decide +kernel
theorem c226_35 : qcd 226 35 = some (.aload_n 0, 1) := by decide +kernel
theorem c226_36 : qcd 226 36 = some (.getfield 27, 3) := by decide +kernel
theorem c226_39 : qcd 226 39 = some (.iconst 5, 1) := by decide +kernel
theorem c226_40 : qcd 226 40 = some (.aload_n 0, 1) := by decide +kernel
theorem c226_41 : qcd 226 41 = some (.getfield 12, 3) := by decide +kernel
theorem c226_44 : qcd 226 44 = some (.getfield 79, 3) := by decide +kernel
theorem c226_47 : qcd 226 47 = some (.i2l, 1) := by decide +kernel
theorem c226_48 : qcd 226 48 = some (.lastore, 1) := by decide +kernel
theorem c226_49 : qcd 226 49 = some (.return_, 1) := by decide +kernel
theorem c227_0 : qcd 227 0 = some (.iconst 0, 1) := by decide +kernel
theorem c227_1 : qcd 227 1 = some (.istore_n 2, 1) := by decide +kernel
theorem c227_2 : qcd 227 2 = some (.iload_n 2, 1) := by decide +kernel
theorem c227_3 : qcd 227 3 = some (.aload_n 1, 1) := by decide +kernel
theorem c227_4 : qcd 227 4 = some (.getfield 95, 3) := by decide +kernel
theorem c227_7 : qcd 227 7 = some (.if_icmp .ge 95, 3) := by decide +kernel
theorem c227_10 : qcd 227 10 = some (.lconst 0, 1) := by decide +kernel
theorem c227_11 : qcd 227 11 = some (.lstore_n 3, 1) := by decide +kernel
theorem c227_12 : qcd 227 12 = some (.aload_n 0, 1) := by decide +kernel
theorem c227_13 : qcd 227 13 = some (.getfield 12, 3) := by decide +kernel
theorem c227_16 : qcd 227 16 = some (.getfield 100, 3) := by decide +kernel
theorem c227_19 : qcd 227 19 = some (.iload_n 2, 1) := by decide +kernel
theorem c227_20 : qcd 227 20 = some (.iaload, 1) := by decide +kernel
theorem c227_21 : qcd 227 21 = some (.ifCond .ne 33, 3) := by decide +kernel
theorem c227_24 : qcd 227 24 = some (.aload_n 1, 1) := by decide +kernel
theorem c227_25 : qcd 227 25 = some (.getfield 103, 3) := by decide +kernel
theorem c227_28 : qcd 227 28 = some (.iload_n 2, 1) := by decide +kernel
theorem c227_29 : qcd 227 29 = some (.iaload, 1) := by decide +kernel
theorem c227_30 : qcd 227 30 = some (.ifCond .le 24, 3) := by decide +kernel
theorem c227_33 : qcd 227 33 = some (.aload_n 0, 1) := by decide +kernel
theorem c227_34 : qcd 227 34 = some (.getfield 21, 3) := by decide +kernel
theorem c227_37 : qcd 227 37 = some (.getfield 106, 3) := by decide +kernel
theorem c227_40 : qcd 227 40 = some (.iload_n 2, 1) := by decide +kernel
theorem c227_41 : qcd 227 41 = some (.laload, 1) := by decide +kernel
theorem c227_42 : qcd 227 42 = some (.invokestatic 109, 3) := by decide +kernel
theorem c227_45 : qcd 227 45 = some (.aload_n 1, 1) := by decide +kernel
theorem c227_46 : qcd 227 46 = some (.getfield 103, 3) := by decide +kernel
theorem c227_49 : qcd 227 49 = some (.iload_n 2, 1) := by decide +kernel
theorem c227_50 : qcd 227 50 = some (.iaload, 1) := by decide +kernel
theorem c227_51 : qcd 227 51 = some (.i2l, 1) := by decide +kernel
theorem c227_52 : qcd 227 52 = some (.ldiv, 1) := by decide +kernel
theorem c227_53 : qcd 227 53 = some (.lstore_n 3, 1) := by decide +kernel
theorem c227_54 : qcd 227 54 = some (.aload_n 0, 1) := by decide +kernel
theorem c227_55 : qcd 227 55 = some (.getfield 12, 3) := by decide +kernel
theorem c227_58 : qcd 227 58 = some (.getfield 115, 3) := by decide +kernel
theorem c227_61 : qcd 227 61 = some (.iload_n 2, 1) := by decide +kernel
theorem c227_62 : qcd 227 62 = some (.iaload, 1) := by decide +kernel
theorem c227_63 : qcd 227 63 = some (.i2l, 1) := by decide +kernel
theorem c227_64 : qcd 227 64 = some (.lload_n 3, 1) := by decide +kernel
theorem c227_65 : qcd 227 65 = some (.ladd, 1) := by decide +kernel
theorem c227_66 : qcd 227 66 = some (.aload_n 1, 1) := by decide +kernel
theorem c227_67 : qcd 227 67 = some (.getfield 118, 3) := by decide +kernel
theorem c227_70 : qcd 227 70 = some (.i2l, 1) := by decide +kernel
theorem c227_71 : qcd 227 71 = some (.lsub, 1) := by decide +kernel
theorem c227_72 : qcd 227 72 = some (.lstore 5, 2) := by decide +kernel
theorem c227_74 : qcd 227 74 = some (.aload_n 0, 1) := by decide +kernel
theorem c227_75 : qcd 227 75 = some (.getfield 12, 3) := by decide +kernel
theorem c227_78 : qcd 227 78 = some (.getfield 115, 3) := by decide +kernel
theorem c227_81 : qcd 227 81 = some (.iload_n 2, 1) := by decide +kernel
theorem c227_82 : qcd 227 82 = some (.lconst 0, 1) := by decide +kernel
theorem c227_83 : qcd 227 83 = some (.ldc2_w 121, 3) := by decide +kernel
theorem c227_86 : qcd 227 86 = some (.lload 5, 2) := by decide +kernel
theorem c227_88 : qcd 227 88 = some (.invokestatic 123, 3) := by decide +kernel
theorem c227_91 : qcd 227 91 = some (.invokestatic 127, 3) := by decide +kernel
theorem c227_94 : qcd 227 94 = some (.l2i, 1) := by decide +kernel
theorem c227_95 : qcd 227 95 = some (.iastore, 1) := by decide +kernel
theorem c227_96 : qcd 227 96 = some (.iinc 2 1, 3) := by decide +kernel
theorem c227_99 : qcd 227 99 = some (.goto (-97), 3) := by decide +kernel
theorem c227_102 : qcd 227 102 = some (.return_, 1) := by decide +kernel
theorem c228_0 : qcd 228 0 = some (.iconst 0, 1) := by decide +kernel
theorem c228_1 : qcd 228 1 = some (.istore 5, 2) := by decide +kernel
theorem c228_3 : qcd 228 3 = some (.iload 5, 2) := by decide +kernel
theorem c228_5 : qcd 228 5 = some (.aload_n 1, 1) := by decide +kernel
theorem c228_6 : qcd 228 6 = some (.getfield 50, 3) := by decide +kernel
theorem c228_9 : qcd 228 9 = some (.if_icmp .ge 97, 3) := by decide +kernel
theorem c228_12 : qcd 228 12 = some (.aload_n 0, 1) := by decide +kernel
theorem c228_13 : qcd 228 13 = some (.getfield 22, 3) := by decide +kernel
theorem c228_16 : qcd 228 16 = some (.iload_n 2, 1) := by decide +kernel
theorem c228_17 : qcd 228 17 = some (.iaload, 1) := by decide +kernel
theorem c228_18 : qcd 228 18 = some (.iload 5, 2) := by decide +kernel
theorem c228_20 : qcd 228 20 = some (.ishr, 1) := by decide +kernel
theorem c228_21 : qcd 228 21 = some (.iconst 1, 1) := by decide +kernel
theorem c228_22 : qcd 228 22 = some (.iand, 1) := by decide +kernel
theorem c228_23 : qcd 228 23 = some (.iconst 1, 1) := by decide +kernel
theorem c228_24 : qcd 228 24 = some (.if_icmp .ne 7, 3) := by decide +kernel
theorem c228_27 : qcd 228 27 = some (.iconst 1, 1) := by decide +kernel
theorem c228_28 : qcd 228 28 = some (.goto 4, 3) := by decide +kernel
theorem c228_31 : qcd 228 31 = some (.iconst 0, 1) := by decide +kernel
theorem c228_32 : qcd 228 32 = some (.istore 6, 2) := by decide +kernel
theorem c228_34 : qcd 228 34 = some (.iload 6, 2) := by decide +kernel
theorem c228_36 : qcd 228 36 = some (.aload_n 3, 1) := by decide +kernel
theorem c228_37 : qcd 228 37 = some (.getfield 53, 3) := by decide +kernel
theorem c228_40 : qcd 228 40 = some (.iload 5, 2) := by decide +kernel
theorem c228_42 : qcd 228 42 = some (.iaload, 1) := by decide +kernel
theorem c228_43 : qcd 228 43 = some (.ifCond .ne 7, 3) := by decide +kernel
theorem c228_46 : qcd 228 46 = some (.iconst 1, 1) := by decide +kernel
theorem c228_47 : qcd 228 47 = some (.goto 4, 3) := by decide +kernel
theorem c228_50 : qcd 228 50 = some (.iconst 0, 1) := by decide +kernel
theorem c228_51 : qcd 228 51 = some (.if_icmp .ne 28, 3) := by decide +kernel
theorem c228_54 : qcd 228 54 = some (.aload_n 0, 1) := by decide +kernel
theorem c228_55 : qcd 228 55 = some (.getfield 27, 3) := by decide +kernel
theorem c228_58 : qcd 228 58 = some (.iload_n 2, 1) := by decide +kernel
theorem c228_59 : qcd 228 59 = some (.aaload, 1) := by decide +kernel
theorem c228_60 : qcd 228 60 = some (.iload 5, 2) := by decide +kernel
theorem c228_62 : qcd 228 62 = some (.laload, 1) := by decide +kernel
theorem c228_63 : qcd 228 63 = some (.aload 4, 2) := by decide +kernel
theorem c228_65 : qcd 228 65 = some (.getfield 56, 3) := by decide +kernel
theorem c228_68 : qcd 228 68 = some (.iload 5, 2) := by decide +kernel
theorem c228_70 : qcd 228 70 = some (.laload, 1) := by decide +kernel
theorem c228_71 : qcd 228 71 = some (.lcmp, 1) := by decide +kernel
theorem c228_72 : qcd 228 72 = some (.ifCond .ne 7, 3) := by decide +kernel
theorem c228_75 : qcd 228 75 = some (.iconst 1, 1) := by decide +kernel
theorem c228_76 : qcd 228 76 = some (.goto 4, 3) := by decide +kernel
theorem c228_79 : qcd 228 79 = some (.iconst 0, 1) := by decide +kernel
theorem c228_80 : qcd 228 80 = some (.istore 7, 2) := by decide +kernel
theorem c228_82 : qcd 228 82 = some (.aload_n 0, 1) := by decide +kernel
theorem c228_83 : qcd 228 83 = some (.aload_n 1, 1) := by decide +kernel
theorem c228_84 : qcd 228 84 = some (.iload_n 2, 1) := by decide +kernel
theorem c228_85 : qcd 228 85 = some (.iload 5, 2) := by decide +kernel
theorem c228_87 : qcd 228 87 = some (.invokevirtual 62, 3) := by decide +kernel
theorem c228_90 : qcd 228 90 = some (.ifCond .eq 10, 3) := by decide +kernel
theorem c228_93 : qcd 228 93 = some (.iload 7, 2) := by decide +kernel
theorem c228_95 : qcd 228 95 = some (.ifCond .ne 5, 3) := by decide +kernel
theorem c228_98 : qcd 228 98 = some (.iconst 1, 1) := by decide +kernel
theorem c228_99 : qcd 228 99 = some (.ireturn, 1) := by decide +kernel
theorem c228_100 : qcd 228 100 = some (.iinc 5 1, 3) := by decide +kernel
theorem c228_103 : qcd 228 103 = some (.goto (-100), 3) := by decide +kernel
theorem c228_106 : qcd 228 106 = some (.iconst 0, 1) := by decide +kernel
theorem c228_107 : qcd 228 107 = some (.ireturn, 1) := by decide +kernel
theorem c229_0 : qcd 229 0 = some (.aload_n 0, 1) := by decide +kernel
theorem c229_1 : qcd 229 1 = some (.invokespecial 3, 3) := by decide +kernel
theorem c229_4 : qcd 229 4 = some (.aload_n 0, 1) := by decide +kernel
theorem c229_5 : qcd 229 5 = some (.iconst 4, 1) := by decide +kernel
theorem c229_6 : qcd 229 6 = some (.newarray .boolean, 2) := by decide +kernel
theorem c229_8 : qcd 229 8 = some (.putfield 9, 3) := by decide +kernel
theorem c229_11 : qcd 229 11 = some (.aload_n 0, 1) := by decide +kernel
theorem c229_12 : qcd 229 12 = some (.iconst 4, 1) := by decide +kernel
theorem c229_13 : qcd 229 13 = some (.newarray .int, 2) := by decide +kernel
theorem c229_15 : qcd 229 15 = some (.dup, 1) := by decide +kernel
theorem c229_16 : qcd 229 16 = some (.iconst 0, 1) := by decide +kernel
theorem c229_17 : qcd 229 17 = some (.iconst (-1), 1) := by decide +kernel
theorem c229_18 : qcd 229 18 = some (.iastore, 1) := by decide +kernel
theorem c229_19 : qcd 229 19 = some (.dup, 1) := by decide +kernel
theorem c229_20 : qcd 229 20 = some (.iconst 1, 1) := by decide +kernel
theorem c229_21 : qcd 229 21 = some (.iconst (-1), 1) := by decide +kernel
theorem c229_22 : qcd 229 22 = some (.iastore, 1) := by decide +kernel
theorem c229_23 : qcd 229 23 = some (.dup, 1) := by decide +kernel
theorem c229_24 : qcd 229 24 = some (.iconst 2, 1) := by decide +kernel
theorem c229_25 : qcd 229 25 = some (.iconst (-1), 1) := by decide +kernel
theorem c229_26 : qcd 229 26 = some (.iastore, 1) := by decide +kernel
theorem c229_27 : qcd 229 27 = some (.dup, 1) := by decide +kernel
theorem c229_28 : qcd 229 28 = some (.iconst 3, 1) := by decide +kernel
theorem c229_29 : qcd 229 29 = some (.iconst (-1), 1) := by decide +kernel
theorem c229_30 : qcd 229 30 = some (.iastore, 1) := by decide +kernel
theorem c229_31 : qcd 229 31 = some (.putfield 15, 3) := by decide +kernel
theorem c229_34 : qcd 229 34 = some (.aload_n 0, 1) := by decide +kernel
theorem c229_35 : qcd 229 35 = some (.iconst 4, 1) := by decide +kernel
theorem c229_36 : qcd 229 36 = some (.newarray .int, 2) := by decide +kernel
theorem c229_38 : qcd 229 38 = some (.dup, 1) := by decide +kernel
theorem c229_39 : qcd 229 39 = some (.iconst 0, 1) := by decide +kernel
theorem c229_40 : qcd 229 40 = some (.iconst (-1), 1) := by decide +kernel
theorem c229_41 : qcd 229 41 = some (.iastore, 1) := by decide +kernel
theorem c229_42 : qcd 229 42 = some (.dup, 1) := by decide +kernel
theorem c229_43 : qcd 229 43 = some (.iconst 1, 1) := by decide +kernel
theorem c229_44 : qcd 229 44 = some (.iconst (-1), 1) := by decide +kernel
theorem c229_45 : qcd 229 45 = some (.iastore, 1) := by decide +kernel
theorem c229_46 : qcd 229 46 = some (.dup, 1) := by decide +kernel
theorem c229_47 : qcd 229 47 = some (.iconst 2, 1) := by decide +kernel
theorem c229_48 : qcd 229 48 = some (.iconst (-1), 1) := by decide +kernel
theorem c229_49 : qcd 229 49 = some (.iastore, 1) := by decide +kernel
theorem c229_50 : qcd 229 50 = some (.dup, 1) := by decide +kernel
theorem c229_51 : qcd 229 51 = some (.iconst 3, 1) := by decide +kernel
theorem c229_52 : qcd 229 52 = some (.iconst (-1), 1) := by decide +kernel
theorem c229_53 : qcd 229 53 = some (.iastore, 1) := by decide +kernel
theorem c229_54 : qcd 229 54 = some (.putfield 19, 3) := by decide +kernel
theorem c229_57 : qcd 229 57 = some (.aload_n 0, 1) := by decide +kernel
theorem c229_58 : qcd 229 58 = some (.iconst 4, 1) := by decide +kernel
theorem c229_59 : qcd 229 59 = some (.newarray .int, 2) := by decide +kernel
theorem c229_61 : qcd 229 61 = some (.putfield 22, 3) := by decide +kernel
theorem c229_64 : qcd 229 64 = some (.aload_n 0, 1) := by decide +kernel
theorem c229_65 : qcd 229 65 = some (.iconst 4, 1) := by decide +kernel
theorem c229_66 : qcd 229 66 = some (.bipush 14, 2) := by decide +kernel
theorem c229_68 : qcd 229 68 = some (.multianewarray 25 2, 4) := by decide +kernel
theorem c229_72 : qcd 229 72 = some (.putfield 27, 3) := by decide +kernel
theorem c229_75 : qcd 229 75 = some (.return_, 1) := by decide +kernel
theorem c230_0 : qcd 230 0 = some (.aload_n 0, 1) := by decide +kernel
theorem c230_1 : qcd 230 1 = some (.getfield 15, 3) := by decide +kernel
theorem c230_4 : qcd 230 4 = some (.iload_n 2, 1) := by decide +kernel
theorem c230_5 : qcd 230 5 = some (.iaload, 1) := by decide +kernel
theorem c230_6 : qcd 230 6 = some (.iconst (-1), 1) := by decide +kernel
theorem c230_7 : qcd 230 7 = some (.if_icmp .eq 16, 3) := by decide +kernel
theorem c230_10 : qcd 230 10 = some (.aload_n 1, 1) := by decide +kernel
theorem c230_11 : qcd 230 11 = some (.iload_n 3, 1) := by decide +kernel
theorem c230_12 : qcd 230 12 = some (.iload_n 2, 1) := by decide +kernel
theorem c230_13 : qcd 230 13 = some (.invokevirtual 30, 3) := by decide +kernel
theorem c230_16 : qcd 230 16 = some (.ifCond .eq 7, 3) := by decide +kernel
theorem c230_19 : qcd 230 19 = some (.iconst 1, 1) := by decide +kernel
theorem c230_20 : qcd 230 20 = some (.goto 4, 3) := by decide +kernel
theorem c230_23 : qcd 230 23 = some (.iconst 0, 1) := by decide +kernel
theorem c230_24 : qcd 230 24 = some (.ireturn, 1) := by decide +kernel
theorem c231_0 : qcd 231 0 = some (.aload_n 0, 1) := by decide +kernel
theorem c231_1 : qcd 231 1 = some (.getfield 15, 3) := by decide +kernel
theorem c231_4 : qcd 231 4 = some (.iload_n 2, 1) := by decide +kernel
theorem c231_5 : qcd 231 5 = some (.aload_n 3, 1) := by decide +kernel
theorem c231_6 : qcd 231 6 = some (.getfield 44, 3) := by decide +kernel
theorem c231_9 : qcd 231 9 = some (.iastore, 1) := by decide +kernel
theorem c231_10 : qcd 231 10 = some (.aload_n 0, 1) := by decide +kernel
theorem c231_11 : qcd 231 11 = some (.getfield 22, 3) := by decide +kernel
theorem c231_14 : qcd 231 14 = some (.iload_n 2, 1) := by decide +kernel
theorem c231_15 : qcd 231 15 = some (.iconst 0, 1) := by decide +kernel
theorem c231_16 : qcd 231 16 = some (.iastore, 1) := by decide +kernel
theorem c231_17 : qcd 231 17 = some (.iconst 0, 1) := by decide +kernel
theorem c231_18 : qcd 231 18 = some (.istore 5, 2) := by decide +kernel
theorem c231_20 : qcd 231 20 = some (.iload 5, 2) := by decide +kernel
theorem c231_22 : qcd 231 22 = some (.aload_n 1, 1) := by decide +kernel
theorem c231_23 : qcd 231 23 = some (.getfield 50, 3) := by decide +kernel
theorem c231_26 : qcd 231 26 = some (.if_icmp .ge 53, 3) := by decide +kernel
theorem c231_29 : qcd 231 29 = some (.aload_n 0, 1) := by decide +kernel
theorem c231_30 : qcd 231 30 = some (.getfield 22, 3) := by decide +kernel
theorem c231_33 : qcd 231 33 = some (.iload_n 2, 1) := by decide +kernel
theorem c231_34 : qcd 231 34 = some (.dup2, 1) := by decide +kernel
theorem c231_35 : qcd 231 35 = some (.iaload, 1) := by decide +kernel
theorem c231_36 : qcd 231 36 = some (.aload_n 3, 1) := by decide +kernel
theorem c231_37 : qcd 231 37 = some (.getfield 53, 3) := by decide +kernel
theorem c231_40 : qcd 231 40 = some (.iload 5, 2) := by decide +kernel
theorem c231_42 : qcd 231 42 = some (.iaload, 1) := by decide +kernel
theorem c231_43 : qcd 231 43 = some (.ifCond .ne 10, 3) := by decide +kernel
theorem c231_46 : qcd 231 46 = some (.iconst 1, 1) := by decide +kernel
theorem c231_47 : qcd 231 47 = some (.iload 5, 2) := by decide +kernel
theorem c231_49 : qcd 231 49 = some (.ishl, 1) := by decide +kernel
theorem c231_50 : qcd 231 50 = some (.goto 4, 3) := by decide +kernel
theorem c231_53 : qcd 231 53 = some (.iconst 0, 1) := by decide +kernel
theorem c231_54 : qcd 231 54 = some (.ior, 1) := by decide +kernel
theorem c231_55 : qcd 231 55 = some (.iastore, 1) := by decide +kernel
theorem c231_56 : qcd 231 56 = some (.aload_n 0, 1) := by decide +kernel
theorem c231_57 : qcd 231 57 = some (.getfield 27, 3) := by decide +kernel
theorem c231_60 : qcd 231 60 = some (.iload_n 2, 1) := by decide +kernel
theorem c231_61 : qcd 231 61 = some (.aaload, 1) := by decide +kernel
theorem c231_62 : qcd 231 62 = some (.iload 5, 2) := by decide +kernel
theorem c231_64 : qcd 231 64 = some (.aload 4, 2) := by decide +kernel
theorem c231_66 : qcd 231 66 = some (.getfield 56, 3) := by decide +kernel
theorem c231_69 : qcd 231 69 = some (.iload 5, 2) := by decide +kernel
theorem c231_71 : qcd 231 71 = some (.laload, 1) := by decide +kernel
theorem c231_72 : qcd 231 72 = some (.lastore, 1) := by decide +kernel
theorem c231_73 : qcd 231 73 = some (.iinc 5 1, 3) := by decide +kernel
theorem c231_76 : qcd 231 76 = some (.goto (-56), 3) := by decide +kernel
theorem c231_79 : qcd 231 79 = some (.return_, 1) := by decide +kernel
theorem c232_0 : qcd 232 0 = some (.iconst 0, 1) := by decide +kernel
theorem c232_1 : qcd 232 1 = some (.istore 4, 2) := by decide +kernel
theorem c232_3 : qcd 232 3 = some (.iload 4, 2) := by decide +kernel
theorem c232_5 : qcd 232 5 = some (.iconst 4, 1) := by decide +kernel
theorem c232_6 : qcd 232 6 = some (.if_icmp .ge 65, 3) := by decide +kernel
theorem c232_9 : qcd 232 9 = some (.aload_n 0, 1) := by decide +kernel
theorem c232_10 : qcd 232 10 = some (.getfield 9, 3) := by decide +kernel
theorem c232_13 : qcd 232 13 = some (.iload 4, 2) := by decide +kernel
theorem c232_15 : qcd 232 15 = some (.baload, 1) := by decide +kernel
theorem c232_16 : qcd 232 16 = some (.ifCond .ne 15, 3) := by decide +kernel
theorem c232_19 : qcd 232 19 = some (.aload_n 0, 1) := by decide +kernel
theorem c232_20 : qcd 232 20 = some (.aload_n 1, 1) := by decide +kernel
theorem c232_21 : qcd 232 21 = some (.iload 4, 2) := by decide +kernel
theorem c232_23 : qcd 232 23 = some (.aload_n 2, 1) := by decide +kernel
theorem c232_24 : qcd 232 24 = some (.aload_n 3, 1) := by decide +kernel
theorem c232_25 : qcd 232 25 = some (.invokevirtual 36, 3) := by decide +kernel
theorem c232_28 : qcd 232 28 = some (.goto 37, 3) := by decide +kernel
theorem c232_31 : qcd 232 31 = some (.aload_n 0, 1) := by decide +kernel
theorem c232_32 : qcd 232 32 = some (.getfield 19, 3) := by decide +kernel
theorem c232_35 : qcd 232 35 = some (.iload 4, 2) := by decide +kernel
theorem c232_37 : qcd 232 37 = some (.iaload, 1) := by decide +kernel
theorem c232_38 : qcd 232 38 = some (.iconst (-1), 1) := by decide +kernel
theorem c232_39 : qcd 232 39 = some (.if_icmp .ne 26, 3) := by decide +kernel
theorem c232_42 : qcd 232 42 = some (.aload_n 0, 1) := by decide +kernel
theorem c232_43 : qcd 232 43 = some (.aload_n 1, 1) := by decide +kernel
theorem c232_44 : qcd 232 44 = some (.iload 4, 2) := by decide +kernel
theorem c232_46 : qcd 232 46 = some (.aload_n 2, 1) := by decide +kernel
theorem c232_47 : qcd 232 47 = some (.aload_n 3, 1) := by decide +kernel
theorem c232_48 : qcd 232 48 = some (.invokevirtual 40, 3) := by decide +kernel
theorem c232_51 : qcd 232 51 = some (.ifCond .eq 14, 3) := by decide +kernel
theorem c232_54 : qcd 232 54 = some (.aload_n 0, 1) := by decide +kernel
theorem c232_55 : qcd 232 55 = some (.getfield 19, 3) := by decide +kernel
theorem c232_58 : qcd 232 58 = some (.iload 4, 2) := by decide +kernel
theorem c232_60 : qcd 232 60 = some (.aload_n 2, 1) := by decide +kernel
theorem c232_61 : qcd 232 61 = some (.getfield 44, 3) := by decide +kernel
theorem c232_64 : qcd 232 64 = some (.iastore, 1) := by decide +kernel
theorem c232_65 : qcd 232 65 = some (.iinc 4 1, 3) := by decide +kernel
theorem c232_68 : qcd 232 68 = some (.goto (-65), 3) := by decide +kernel
theorem c232_71 : qcd 232 71 = some (.return_, 1) := by decide +kernel
theorem c233_0 : qcd 233 0 = some (.iconst 0, 1) := by decide +kernel
theorem c233_1 : qcd 233 1 = some (.istore 6, 2) := by decide +kernel
theorem c233_3 : qcd 233 3 = some (.iload 6, 2) := by decide +kernel
theorem c233_5 : qcd 233 5 = some (.aload_n 1, 1) := by decide +kernel
theorem c233_6 : qcd 233 6 = some (.getfield 68, 3) := by decide +kernel
theorem c233_9 : qcd 233 9 = some (.if_icmp .ge 64, 3) := by decide +kernel
theorem c233_12 : qcd 233 12 = some (.aload_n 0, 1) := by decide +kernel
theorem c233_13 : qcd 233 13 = some (.getfield 15, 3) := by decide +kernel
theorem c233_16 : qcd 233 16 = some (.iload 6, 2) := by decide +kernel
theorem c233_18 : qcd 233 18 = some (.iaload, 1) := by decide +kernel
theorem c233_19 : qcd 233 19 = some (.iload_n 3, 1) := by decide +kernel
theorem c233_20 : qcd 233 20 = some (.if_icmp .ne 47, 3) := by decide +kernel
theorem c233_23 : qcd 233 23 = some (.aload_n 0, 1) := by decide +kernel
theorem c233_24 : qcd 233 24 = some (.getfield 18, 3) := by decide +kernel
theorem c233_27 : qcd 233 27 = some (.iload 6, 2) := by decide +kernel
theorem c233_29 : qcd 233 29 = some (.iload 4, 2) := by decide +kernel
theorem c233_31 : qcd 233 31 = some (.iload 5, 2) := by decide +kernel
theorem c233_33 : qcd 233 33 = some (.isub, 1) := by decide +kernel
theorem c233_34 : qcd 233 34 = some (.iastore, 1) := by decide +kernel
theorem c233_35 : qcd 233 35 = some (.aload_n 0, 1) := by decide +kernel
theorem c233_36 : qcd 233 36 = some (.getfield 28, 3) := by decide +kernel
theorem c233_39 : qcd 233 39 = some (.iload 6, 2) := by decide +kernel
theorem c233_41 : qcd 233 41 = some (.aload_n 0, 1) := by decide +kernel
theorem c233_42 : qcd 233 42 = some (.getfield 48, 3) := by decide +kernel
theorem c233_45 : qcd 233 45 = some (.iload 6, 2) := by decide +kernel
theorem c233_47 : qcd 233 47 = some (.ishr, 1) := by decide +kernel
theorem c233_48 : qcd 233 48 = some (.iconst 1, 1) := by decide +kernel
theorem c233_49 : qcd 233 49 = some (.iand, 1) := by decide +kernel
theorem c233_50 : qcd 233 50 = some (.iconst 1, 1) := by decide +kernel
theorem c233_51 : qcd 233 51 = some (.if_icmp .ne 7, 3) := by decide +kernel
theorem c233_54 : qcd 233 54 = some (.iconst 0, 1) := by decide +kernel
theorem c233_55 : qcd 233 55 = some (.goto 11, 3) := by decide +kernel
theorem c233_58 : qcd 233 58 = some (.aload_n 2, 1) := by decide +kernel
theorem c233_59 : qcd 233 59 = some (.getfield 91, 3) := by decide +kernel
theorem c233_62 : qcd 233 62 = some (.iload 6, 2) := by decide +kernel
theorem c233_64 : qcd 233 64 = some (.iaload, 1) := by decide +kernel
theorem c233_65 : qcd 233 65 = some (.ineg, 1) := by decide +kernel
theorem c233_66 : qcd 233 66 = some (.iastore, 1) := by decide +kernel
theorem c233_67 : qcd 233 67 = some (.iinc 6 1, 3) := by decide +kernel
theorem c233_70 : qcd 233 70 = some (.goto (-67), 3) := by decide +kernel
theorem c233_73 : qcd 233 73 = some (.iload 5, 2) := by decide +kernel
theorem c233_75 : qcd 233 75 = some (.istore 6, 2) := by decide +kernel
theorem c233_77 : qcd 233 77 = some (.iconst 0, 1) := by decide +kernel
theorem c233_78 : qcd 233 78 = some (.istore 7, 2) := by decide +kernel
theorem c233_80 : qcd 233 80 = some (.iload 7, 2) := by decide +kernel
theorem c233_82 : qcd 233 82 = some (.aload_n 1, 1) := by decide +kernel
theorem c233_83 : qcd 233 83 = some (.getfield 78, 3) := by decide +kernel
theorem c233_86 : qcd 233 86 = some (.if_icmp .ge 100, 3) := by decide +kernel
theorem c233_89 : qcd 233 89 = some (.aload_n 1, 1) := by decide +kernel
theorem c233_90 : qcd 233 90 = some (.getfield 101, 3) := by decide +kernel
theorem c233_93 : qcd 233 93 = some (.iload 7, 2) := by decide +kernel
theorem c233_95 : qcd 233 95 = some (.iaload, 1) := by decide +kernel
theorem c233_96 : qcd 233 96 = some (.istore 8, 2) := by decide +kernel
theorem c233_98 : qcd 233 98 = some (.aload_n 0, 1) := by decide +kernel
theorem c233_99 : qcd 233 99 = some (.getfield 15, 3) := by decide +kernel
theorem c233_102 : qcd 233 102 = some (.aload_n 1, 1) := by decide +kernel
theorem c233_103 : qcd 233 103 = some (.getfield 85, 3) := by decide +kernel
theorem c233_106 : qcd 233 106 = some (.iload 8, 2) := by decide +kernel
theorem c233_108 : qcd 233 108 = some (.iaload, 1) := by decide +kernel
theorem c233_109 : qcd 233 109 = some (.iaload, 1) := by decide +kernel
theorem c233_110 : qcd 233 110 = some (.iload_n 3, 1) := by decide +kernel
theorem c233_111 : qcd 233 111 = some (.if_icmp .ne 69, 3) := by decide +kernel
theorem c233_114 : qcd 233 114 = some (.aload_n 0, 1) := by decide +kernel
theorem c233_115 : qcd 233 115 = some (.getfield 21, 3) := by decide +kernel
theorem c233_118 : qcd 233 118 = some (.iload 8, 2) := by decide +kernel
theorem c233_120 : qcd 233 120 = some (.aload_n 2, 1) := by decide +kernel
theorem c233_121 : qcd 233 121 = some (.iload 8, 2) := by decide +kernel
theorem c233_123 : qcd 233 123 = some (.invokevirtual 81, 3) := by decide +kernel
theorem c233_126 : qcd 233 126 = some (.ifCond .eq 18, 3) := by decide +kernel
theorem c233_129 : qcd 233 129 = some (.aload_n 1, 1) := by decide +kernel
theorem c233_130 : qcd 233 130 = some (.getfield 88, 3) := by decide +kernel
theorem c233_133 : qcd 233 133 = some (.iload 8, 2) := by decide +kernel
theorem c233_135 : qcd 233 135 = some (.iaload, 1) := by decide +kernel
theorem c233_136 : qcd 233 136 = some (.iload 6, 2) := by decide +kernel
theorem c233_138 : qcd 233 138 = some (.invokestatic 104, 3) := by decide +kernel
theorem c233_141 : qcd 233 141 = some (.goto 4, 3) := by decide +kernel
theorem c233_144 : qcd 233 144 = some (.iconst 0, 1) := by decide +kernel
theorem c233_145 : qcd 233 145 = some (.iastore, 1) := by decide +kernel
theorem c233_146 : qcd 233 146 = some (.aload_n 0, 1) := by decide +kernel
theorem c233_147 : qcd 233 147 = some (.getfield 28, 3) := by decide +kernel
theorem c233_150 : qcd 233 150 = some (.aload_n 1, 1) := by decide +kernel
theorem c233_151 : qcd 233 151 = some (.getfield 85, 3) := by decide +kernel
theorem c233_154 : qcd 233 154 = some (.iload 8, 2) := by decide +kernel
theorem c233_156 : qcd 233 156 = some (.iaload, 1) := by decide +kernel
theorem c233_157 : qcd 233 157 = some (.dup2, 1) := by decide +kernel
theorem c233_158 : qcd 233 158 = some (.iaload, 1) := by decide +kernel
theorem c233_159 : qcd 233 159 = some (.aload_n 0, 1) := by decide +kernel
theorem c233_160 : qcd 233 160 = some (.getfield 21, 3) := by decide +kernel
theorem c233_163 : qcd 233 163 = some (.iload 8, 2) := by decide +kernel
theorem c233_165 : qcd 233 165 = some (.iaload, 1) := by decide +kernel
theorem c233_166 : qcd 233 166 = some (.iadd, 1) := by decide +kernel
theorem c233_167 : qcd 233 167 = some (.iastore, 1) := by decide +kernel
theorem c233_168 : qcd 233 168 = some (.iload 6, 2) := by decide +kernel
theorem c233_170 : qcd 233 170 = some (.aload_n 0, 1) := by decide +kernel
theorem c233_171 : qcd 233 171 = some (.getfield 21, 3) := by decide +kernel
theorem c233_174 : qcd 233 174 = some (.iload 8, 2) := by decide +kernel
theorem c233_176 : qcd 233 176 = some (.iaload, 1) := by decide +kernel
theorem c233_177 : qcd 233 177 = some (.isub, 1) := by decide +kernel
theorem c233_178 : qcd 233 178 = some (.istore 6, 2) := by decide +kernel
theorem c233_180 : qcd 233 180 = some (.iinc 7 1, 3) := by decide +kernel
theorem c233_183 : qcd 233 183 = some (.goto (-103), 3) := by decide +kernel
theorem c233_186 : qcd 233 186 = some (.return_, 1) := by decide +kernel
theorem c234_0 : qcd 234 0 = some (.lconst 1, 1) := by decide +kernel
theorem c234_1 : qcd 234 1 = some (.lstore_n 2, 1) := by decide +kernel
theorem c234_2 : qcd 234 2 = some (.iconst 0, 1) := by decide +kernel
theorem c234_3 : qcd 234 3 = some (.istore 4, 2) := by decide +kernel
theorem c234_5 : qcd 234 5 = some (.iload 4, 2) := by decide +kernel
theorem c234_7 : qcd 234 7 = some (.iload_n 1, 1) := by decide +kernel
theorem c234_8 : qcd 234 8 = some (.if_icmp .ge 130, 3) := by decide +kernel
theorem c234_11 : qcd 234 11 = some (.aload_n 0, 1) := by decide +kernel
theorem c234_12 : qcd 234 12 = some (.getfield 39, 3) := by decide +kernel
theorem c234_15 : qcd 234 15 = some (.iload 4, 2) := by decide +kernel
theorem c234_17 : qcd 234 17 = some (.aaload, 1) := by decide +kernel
theorem c234_18 : qcd 234 18 = some (.iload 4, 2) := by decide +kernel
theorem c234_20 : qcd 234 20 = some (.laload, 1) := by decide +kernel
theorem c234_21 : qcd 234 21 = some (.lstore 5, 2) := by decide +kernel
theorem c234_23 : qcd 234 23 = some (.lload 5, 2) := by decide +kernel
theorem c234_25 : qcd 234 25 = some (.lconst 0, 1) := by decide +kernel
theorem c234_26 : qcd 234 26 = some (.lcmp, 1) := by decide +kernel
theorem c234_27 : qcd 234 27 = some (.ifCond .eq 9, 3) := by decide +kernel
theorem c234_30 : qcd 234 30 = some (.lload_n 2, 1) := by decide +kernel
theorem c234_31 : qcd 234 31 = some (.lconst 0, 1) := by decide +kernel
theorem c234_32 : qcd 234 32 = some (.lcmp, 1) := by decide +kernel
theorem c234_33 : qcd 234 33 = some (.ifCond .ne 5, 3) := by decide +kernel
theorem c234_36 : qcd 234 36 = some (.lconst 0, 1) := by decide +kernel
theorem c234_37 : qcd 234 37 = some (.lreturn, 1) := by decide +kernel
theorem c234_38 : qcd 234 38 = some (.iconst 0, 1) := by decide +kernel
theorem c234_39 : qcd 234 39 = some (.istore 7, 2) := by decide +kernel
theorem c234_41 : qcd 234 41 = some (.iload 7, 2) := by decide +kernel
theorem c234_43 : qcd 234 43 = some (.iload_n 1, 1) := by decide +kernel
theorem c234_44 : qcd 234 44 = some (.if_icmp .ge 85, 3) := by decide +kernel
theorem c234_47 : qcd 234 47 = some (.aload_n 0, 1) := by decide +kernel
theorem c234_48 : qcd 234 48 = some (.getfield 39, 3) := by decide +kernel
theorem c234_51 : qcd 234 51 = some (.iload 7, 2) := by decide +kernel
theorem c234_53 : qcd 234 53 = some (.aaload, 1) := by decide +kernel
theorem c234_54 : qcd 234 54 = some (.iload 4, 2) := by decide +kernel
theorem c234_56 : qcd 234 56 = some (.laload, 1) := by decide +kernel
theorem c234_57 : qcd 234 57 = some (.lstore 8, 2) := by decide +kernel
theorem c234_59 : qcd 234 59 = some (.iload 4, 2) := by decide +kernel
theorem c234_61 : qcd 234 61 = some (.iconst 1, 1) := by decide +kernel
theorem c234_62 : qcd 234 62 = some (.iadd, 1) := by decide +kernel
theorem c234_63 : qcd 234 63 = some (.istore 10, 2) := by decide +kernel
theorem c234_65 : qcd 234 65 = some (.iload 10, 2) := by decide +kernel
theorem c234_67 : qcd 234 67 = some (.iload_n 1, 1) := by decide +kernel
theorem c234_68 : qcd 234 68 = some (.if_icmp .gt 55, 3) := by decide +kernel
theorem c234_71 : qcd 234 71 = some (.iload 7, 2) := by decide +kernel
theorem c234_73 : qcd 234 73 = some (.iload 4, 2) := by decide +kernel
theorem c234_75 : qcd 234 75 = some (.if_icmp .eq 48, 3) := by decide +kernel
theorem c234_78 : qcd 234 78 = some (.aload_n 0, 1) := by decide +kernel
theorem c234_79 : qcd 234 79 = some (.getfield 39, 3) := by decide +kernel
theorem c234_82 : qcd 234 82 = some (.iload 7, 2) := by decide +kernel
theorem c234_84 : qcd 234 84 = some (.aaload, 1) := by decide +kernel
theorem c234_85 : qcd 234 85 = some (.iload 10, 2) := by decide +kernel
theorem c234_87 : qcd 234 87 = some (.lload 5, 2) := by decide +kernel
theorem c234_89 : qcd 234 89 = some (.aload_n 0, 1) := by decide +kernel
theorem c234_90 : qcd 234 90 = some (.getfield 39, 3) := by decide +kernel
theorem c234_93 : qcd 234 93 = some (.iload 7, 2) := by decide +kernel
theorem c234_95 : qcd 234 95 = some (.aaload, 1) := by decide +kernel
theorem c234_96 : qcd 234 96 = some (.iload 10, 2) := by decide +kernel
theorem c234_98 : qcd 234 98 = some (.laload, 1) := by decide +kernel
theorem c234_99 : qcd 234 99 = some (.lmul, 1) := by decide +kernel
theorem c234_100 : qcd 234 100 = some (.lload 8, 2) := by decide +kernel
theorem c234_102 : qcd 234 102 = some (.aload_n 0, 1) := by decide +kernel
theorem c234_103 : qcd 234 103 = some (.getfield 39, 3) := by decide +kernel
theorem c234_106 : qcd 234 106 = some (.iload 4, 2) := by decide +kernel
theorem c234_108 : qcd 234 108 = some (.aaload, 1) := by decide +kernel
theorem c234_109 : qcd 234 109 = some (.iload 10, 2) := by decide +kernel
theorem c234_111 : qcd 234 111 = some (.laload, 1) := by decide +kernel
theorem c234_112 : qcd 234 112 = some (.lmul, 1) := by decide +kernel
theorem c234_113 : qcd 234 113 = some (.lsub, 1) := by decide +kernel
theorem c234_114 : qcd 234 114 = some (.lload_n 2, 1) := by decide +kernel
theorem c234_115 : qcd 234 115 = some (.ldiv, 1) := by decide +kernel
theorem c234_116 : qcd 234 116 = some (.lastore, 1) := by decide +kernel
theorem c234_117 : qcd 234 117 = some (.iinc 10 1, 3) := by decide +kernel
theorem c234_120 : qcd 234 120 = some (.goto (-55), 3) := by decide +kernel
theorem c234_123 : qcd 234 123 = some (.iinc 7 1, 3) := by decide +kernel
theorem c234_126 : qcd 234 126 = some (.goto (-85), 3) := by decide +kernel
theorem c234_129 : qcd 234 129 = some (.lload 5, 2) := by decide +kernel
theorem c234_131 : qcd 234 131 = some (.lstore_n 2, 1) := by decide +kernel
theorem c234_132 : qcd 234 132 = some (.iinc 4 1, 3) := by decide +kernel
theorem c234_135 : qcd 234 135 = some (.goto (-130), 3) := by decide +kernel
theorem c234_138 : qcd 234 138 = some (.lload_n 2, 1) := by decide +kernel
theorem c234_139 : qcd 234 139 = some (.lreturn, 1) := by decide +kernel
theorem c235_0 : qcd 235 0 = some (.iconst 0, 1) := by decide +kernel
theorem c235_1 : qcd 235 1 = some (.istore 4, 2) := by decide +kernel
theorem c235_3 : qcd 235 3 = some (.iconst 0, 1) := by decide +kernel
theorem c235_4 : qcd 235 4 = some (.istore 5, 2) := by decide +kernel
theorem c235_6 : qcd 235 6 = some (.iload 5, 2) := by decide +kernel
theorem c235_8 : qcd 235 8 = some (.aload_n 1, 1) := by decide +kernel
theorem c235_9 : qcd 235 9 = some (.getfield 68, 3) := by decide +kernel
theorem c235_12 : qcd 235 12 = some (.if_icmp .ge 38, 3) := by decide +kernel
theorem c235_15 : qcd 235 15 = some (.aload_n 0, 1) := by decide +kernel
theorem c235_16 : qcd 235 16 = some (.getfield 15, 3) := by decide +kernel
theorem c235_19 : qcd 235 19 = some (.iload 5, 2) := by decide +kernel
theorem c235_21 : qcd 235 21 = some (.iaload, 1) := by decide +kernel
theorem c235_22 : qcd 235 22 = some (.iload_n 3, 1) := by decide +kernel
theorem c235_23 : qcd 235 23 = some (.if_icmp .ne 21, 3) := by decide +kernel
theorem c235_26 : qcd 235 26 = some (.iload 5, 2) := by decide +kernel
theorem c235_28 : qcd 235 28 = some (.iload_n 3, 1) := by decide +kernel
theorem c235_29 : qcd 235 29 = some (.if_icmp .eq 15, 3) := by decide +kernel
theorem c235_32 : qcd 235 32 = some (.aload_n 0, 1) := by decide +kernel
theorem c235_33 : qcd 235 33 = some (.getfield 31, 3) := by decide +kernel
theorem c235_36 : qcd 235 36 = some (.iload 5, 2) := by decide +kernel
theorem c235_38 : qcd 235 38 = some (.iload 4, 2) := by decide +kernel
theorem c235_40 : qcd 235 40 = some (.iastore, 1) := by decide +kernel
theorem c235_41 : qcd 235 41 = some (.iinc 4 1, 3) := by decide +kernel
theorem c235_44 : qcd 235 44 = some (.iinc 5 1, 3) := by decide +kernel
theorem c235_47 : qcd 235 47 = some (.goto (-41), 3) := by decide +kernel
theorem c235_50 : qcd 235 50 = some (.iconst 0, 1) := by decide +kernel
theorem c235_51 : qcd 235 51 = some (.istore 5, 2) := by decide +kernel
theorem c235_53 : qcd 235 53 = some (.iload 5, 2) := by decide +kernel
theorem c235_55 : qcd 235 55 = some (.aload_n 1, 1) := by decide +kernel
theorem c235_56 : qcd 235 56 = some (.getfield 68, 3) := by decide +kernel
theorem c235_59 : qcd 235 59 = some (.if_icmp .ge 65, 3) := by decide +kernel
theorem c235_62 : qcd 235 62 = some (.aload_n 0, 1) := by decide +kernel
theorem c235_63 : qcd 235 63 = some (.getfield 15, 3) := by decide +kernel
theorem c235_66 : qcd 235 66 = some (.iload 5, 2) := by decide +kernel
theorem c235_68 : qcd 235 68 = some (.iaload, 1) := by decide +kernel
theorem c235_69 : qcd 235 69 = some (.iload_n 3, 1) := by decide +kernel
theorem c235_70 : qcd 235 70 = some (.if_icmp .ne 48, 3) := by decide +kernel
theorem c235_73 : qcd 235 73 = some (.iload 5, 2) := by decide +kernel
theorem c235_75 : qcd 235 75 = some (.iload_n 3, 1) := by decide +kernel
theorem c235_76 : qcd 235 76 = some (.if_icmp .eq 42, 3) := by decide +kernel
theorem c235_79 : qcd 235 79 = some (.aload_n 0, 1) := by decide +kernel
theorem c235_80 : qcd 235 80 = some (.getfield 39, 3) := by decide +kernel
theorem c235_83 : qcd 235 83 = some (.aload_n 0, 1) := by decide +kernel
theorem c235_84 : qcd 235 84 = some (.getfield 31, 3) := by decide +kernel
theorem c235_87 : qcd 235 87 = some (.iload 5, 2) := by decide +kernel
theorem c235_89 : qcd 235 89 = some (.iaload, 1) := by decide +kernel
theorem c235_90 : qcd 235 90 = some (.aaload, 1) := by decide +kernel
theorem c235_91 : qcd 235 91 = some (.lconst 0, 1) := by decide +kernel
theorem c235_92 : qcd 235 92 = some (.invokestatic 56, 3) := by decide +kernel
theorem c235_95 : qcd 235 95 = some (.aload_n 0, 1) := by decide +kernel
theorem c235_96 : qcd 235 96 = some (.getfield 39, 3) := by decide +kernel
theorem c235_99 : qcd 235 99 = some (.aload_n 0, 1) := by decide +kernel
theorem c235_100 : qcd 235 100 = some (.getfield 31, 3) := by decide +kernel
theorem c235_103 : qcd 235 103 = some (.iload 5, 2) := by decide +kernel
theorem c235_105 : qcd 235 105 = some (.iaload, 1) := by decide +kernel
theorem c235_106 : qcd 235 106 = some (.aaload, 1) := by decide +kernel
theorem c235_107 : qcd 235 107 = some (.iload 4, 2) := by decide +kernel
theorem c235_109 : qcd 235 109 = some (.aload_n 0, 1) := by decide +kernel
theorem c235_110 : qcd 235 110 = some (.getfield 28, 3) := by decide +kernel
theorem c235_113 : qcd 235 113 = some (.iload 5, 2) := by decide +kernel
theorem c235_115 : qcd 235 115 = some (.iaload, 1) := by decide +kernel
theorem c235_116 : qcd 235 116 = some (.i2l, 1) := by decide +kernel
theorem c235_117 : qcd 235 117 = some (.lastore, 1) := by decide +kernel
theorem c235_118 : qcd 235 118 = some (.iinc 5 1, 3) := by decide +kernel
theorem c235_121 : qcd 235 121 = some (.goto (-68), 3) := by decide +kernel
theorem c235_124 : qcd 235 124 = some (.iconst 0, 1) := by decide +kernel
theorem c235_125 : qcd 235 125 = some (.istore 5, 2) := by decide +kernel
theorem c235_127 : qcd 235 127 = some (.iload 5, 2) := by decide +kernel
theorem c235_129 : qcd 235 129 = some (.aload_n 1, 1) := by decide +kernel
theorem c235_130 : qcd 235 130 = some (.getfield 118, 3) := by decide +kernel
theorem c235_133 : qcd 235 133 = some (.if_icmp .ge 61, 3) := by decide +kernel
theorem c235_136 : qcd 235 136 = some (.aload_n 2, 1) := by decide +kernel
theorem c235_137 : qcd 235 137 = some (.getfield 121, 3) := by decide +kernel
theorem c235_140 : qcd 235 140 = some (.iload 5, 2) := by decide +kernel
theorem c235_142 : qcd 235 142 = some (.iaload, 1) := by decide +kernel
theorem c235_143 : qcd 235 143 = some (.ifCond .ne 45, 3) := by decide +kernel
theorem c235_146 : qcd 235 146 = some (.aload_n 0, 1) := by decide +kernel
theorem c235_147 : qcd 235 147 = some (.getfield 15, 3) := by decide +kernel
theorem c235_150 : qcd 235 150 = some (.aload_n 1, 1) := by decide +kernel
theorem c235_151 : qcd 235 151 = some (.getfield 124, 3) := by decide +kernel
theorem c235_154 : qcd 235 154 = some (.iload 5, 2) := by decide +kernel
theorem c235_156 : qcd 235 156 = some (.iaload, 1) := by decide +kernel
theorem c235_157 : qcd 235 157 = some (.iaload, 1) := by decide +kernel
theorem c235_158 : qcd 235 158 = some (.iload_n 3, 1) := by decide +kernel
theorem c235_159 : qcd 235 159 = some (.if_icmp .ne 29, 3) := by decide +kernel
theorem c235_162 : qcd 235 162 = some (.aload_n 0, 1) := by decide +kernel
theorem c235_163 : qcd 235 163 = some (.aload_n 1, 1) := by decide +kernel
theorem c235_164 : qcd 235 164 = some (.getfield 124, 3) := by decide +kernel
theorem c235_167 : qcd 235 167 = some (.iload 5, 2) := by decide +kernel
theorem c235_169 : qcd 235 169 = some (.iaload, 1) := by decide +kernel
theorem c235_170 : qcd 235 170 = some (.aload_n 1, 1) := by decide +kernel
theorem c235_171 : qcd 235 171 = some (.getfield 130, 3) := by decide +kernel
theorem c235_174 : qcd 235 174 = some (.iload 5, 2) := by decide +kernel
theorem c235_176 : qcd 235 176 = some (.iaload, 1) := by decide +kernel
theorem c235_177 : qcd 235 177 = some (.aload_n 1, 1) := by decide +kernel
theorem c235_178 : qcd 235 178 = some (.getfield 127, 3) := by decide +kernel
theorem c235_181 : qcd 235 181 = some (.iload 5, 2) := by decide +kernel
theorem c235_183 : qcd 235 183 = some (.iaload, 1) := by decide +kernel
theorem c235_184 : qcd 235 184 = some (.iload_n 3, 1) := by decide +kernel
theorem c235_185 : qcd 235 185 = some (.invokevirtual 142, 3) := by decide +kernel
theorem c235_188 : qcd 235 188 = some (.iinc 5 1, 3) := by decide +kernel
theorem c235_191 : qcd 235 191 = some (.goto (-64), 3) := by decide +kernel
theorem c235_194 : qcd 235 194 = some (.iload 4, 2) := by decide +kernel
theorem c235_196 : qcd 235 196 = some (.ireturn, 1) := by decide +kernel
theorem c236_0 : qcd 236 0 = some (.aload_n 0, 1) := by decide +kernel
theorem c236_1 : qcd 236 1 = some (.invokespecial 3, 3) := by decide +kernel
theorem c236_4 : qcd 236 4 = some (.aload_n 0, 1) := by decide +kernel
theorem c236_5 : qcd 236 5 = some (.bipush 8, 2) := by decide +kernel
theorem c236_7 : qcd 236 7 = some (.newarray .int, 2) := by decide +kernel
theorem c236_9 : qcd 236 9 = some (.putfield 9, 3) := by decide +kernel
theorem c236_12 : qcd 236 12 = some (.aload_n 0, 1) := by decide +kernel
theorem c236_13 : qcd 236 13 = some (.bipush 8, 2) := by decide +kernel
theorem c236_15 : qcd 236 15 = some (.newarray .int, 2) := by decide +kernel
theorem c236_17 : qcd 236 17 = some (.putfield 15, 3) := by decide +kernel
theorem c236_20 : qcd 236 20 = some (.aload_n 0, 1) := by decide +kernel
theorem c236_21 : qcd 236 21 = some (.bipush 8, 2) := by decide +kernel
theorem c236_23 : qcd 236 23 = some (.newarray .int, 2) := by decide +kernel
theorem c236_25 : qcd 236 25 = some (.putfield 18, 3) := by decide +kernel
theorem c236_28 : qcd 236 28 = some (.aload_n 0, 1) := by decide +kernel
theorem c236_29 : qcd 236 29 = some (.bipush 9, 2) := by decide +kernel
theorem c236_31 : qcd 236 31 = some (.newarray .int, 2) := by decide +kernel
theorem c236_33 : qcd 236 33 = some (.putfield 21, 3) := by decide +kernel
theorem c236_36 : qcd 236 36 = some (.aload_n 0, 1) := by decide +kernel
theorem c236_37 : qcd 236 37 = some (.bipush 14, 2) := by decide +kernel
theorem c236_39 : qcd 236 39 = some (.newarray .long, 2) := by decide +kernel
theorem c236_41 : qcd 236 41 = some (.putfield 24, 3) := by decide +kernel
theorem c236_44 : qcd 236 44 = some (.aload_n 0, 1) := by decide +kernel
theorem c236_45 : qcd 236 45 = some (.bipush 8, 2) := by decide +kernel
theorem c236_47 : qcd 236 47 = some (.newarray .int, 2) := by decide +kernel
theorem c236_49 : qcd 236 49 = some (.putfield 28, 3) := by decide +kernel
theorem c236_52 : qcd 236 52 = some (.aload_n 0, 1) := by decide +kernel
theorem c236_53 : qcd 236 53 = some (.bipush 8, 2) := by decide +kernel
theorem c236_55 : qcd 236 55 = some (.newarray .int, 2) := by decide +kernel
theorem c236_57 : qcd 236 57 = some (.putfield 31, 3) := by decide +kernel
theorem c236_60 : qcd 236 60 = some (.aload_n 0, 1) := by decide +kernel
theorem c236_61 : qcd 236 61 = some (.bipush 8, 2) := by decide +kernel
theorem c236_63 : qcd 236 63 = some (.newarray .long, 2) := by decide +kernel
theorem c236_65 : qcd 236 65 = some (.putfield 34, 3) := by decide +kernel
theorem c236_68 : qcd 236 68 = some (.aload_n 0, 1) := by decide +kernel
theorem c236_69 : qcd 236 69 = some (.bipush 8, 2) := by decide +kernel
theorem c236_71 : qcd 236 71 = some (.bipush 8, 2) := by decide +kernel
theorem c236_73 : qcd 236 73 = some (.multianewarray 37 2, 4) := by decide +kernel
theorem c236_77 : qcd 236 77 = some (.putfield 39, 3) := by decide +kernel
theorem c236_80 : qcd 236 80 = some (.return_, 1) := by decide +kernel
theorem c237_0 : qcd 237 0 = some (.iload_n 1, 1) := by decide +kernel
theorem c237_1 : qcd 237 1 = some (.iload 4, 2) := by decide +kernel
theorem c237_3 : qcd 237 3 = some (.if_icmp .eq 26, 3) := by decide +kernel
theorem c237_6 : qcd 237 6 = some (.aload_n 0, 1) := by decide +kernel
theorem c237_7 : qcd 237 7 = some (.getfield 39, 3) := by decide +kernel
theorem c237_10 : qcd 237 10 = some (.aload_n 0, 1) := by decide +kernel
theorem c237_11 : qcd 237 11 = some (.getfield 31, 3) := by decide +kernel
theorem c237_14 : qcd 237 14 = some (.iload_n 1, 1) := by decide +kernel
theorem c237_15 : qcd 237 15 = some (.iaload, 1) := by decide +kernel
theorem c237_16 : qcd 237 16 = some (.aaload, 1) := by decide +kernel
theorem c237_17 : qcd 237 17 = some (.aload_n 0, 1) := by decide +kernel
theorem c237_18 : qcd 237 18 = some (.getfield 31, 3) := by decide +kernel
theorem c237_21 : qcd 237 21 = some (.iload_n 1, 1) := by decide +kernel
theorem c237_22 : qcd 237 22 = some (.iaload, 1) := by decide +kernel
theorem c237_23 : qcd 237 23 = some (.dup2, 1) := by decide +kernel
theorem c237_24 : qcd 237 24 = some (.laload, 1) := by decide +kernel
theorem c237_25 : qcd 237 25 = some (.iload_n 3, 1) := by decide +kernel
theorem c237_26 : qcd 237 26 = some (.i2l, 1) := by decide +kernel
theorem c237_27 : qcd 237 27 = some (.ladd, 1) := by decide +kernel
theorem c237_28 : qcd 237 28 = some (.lastore, 1) := by decide +kernel
theorem c237_29 : qcd 237 29 = some (.iload_n 2, 1) := by decide +kernel
theorem c237_30 : qcd 237 30 = some (.iload 4, 2) := by decide +kernel
theorem c237_32 : qcd 237 32 = some (.if_icmp .eq 26, 3) := by decide +kernel
theorem c237_35 : qcd 237 35 = some (.aload_n 0, 1) := by decide +kernel
theorem c237_36 : qcd 237 36 = some (.getfield 39, 3) := by decide +kernel
theorem c237_39 : qcd 237 39 = some (.aload_n 0, 1) := by decide +kernel
theorem c237_40 : qcd 237 40 = some (.getfield 31, 3) := by decide +kernel
theorem c237_43 : qcd 237 43 = some (.iload_n 2, 1) := by decide +kernel
theorem c237_44 : qcd 237 44 = some (.iaload, 1) := by decide +kernel
theorem c237_45 : qcd 237 45 = some (.aaload, 1) := by decide +kernel
theorem c237_46 : qcd 237 46 = some (.aload_n 0, 1) := by decide +kernel
theorem c237_47 : qcd 237 47 = some (.getfield 31, 3) := by decide +kernel
theorem c237_50 : qcd 237 50 = some (.iload_n 2, 1) := by decide +kernel
theorem c237_51 : qcd 237 51 = some (.iaload, 1) := by decide +kernel
theorem c237_52 : qcd 237 52 = some (.dup2, 1) := by decide +kernel
theorem c237_53 : qcd 237 53 = some (.laload, 1) := by decide +kernel
theorem c237_54 : qcd 237 54 = some (.iload_n 3, 1) := by decide +kernel
theorem c237_55 : qcd 237 55 = some (.i2l, 1) := by decide +kernel
theorem c237_56 : qcd 237 56 = some (.ladd, 1) := by decide +kernel
theorem c237_57 : qcd 237 57 = some (.lastore, 1) := by decide +kernel
theorem c237_58 : qcd 237 58 = some (.iload_n 1, 1) := by decide +kernel
theorem c237_59 : qcd 237 59 = some (.iload 4, 2) := by decide +kernel
theorem c237_61 : qcd 237 61 = some (.if_icmp .eq 55, 3) := by decide +kernel
theorem c237_64 : qcd 237 64 = some (.iload_n 2, 1) := by decide +kernel
theorem c237_65 : qcd 237 65 = some (.iload 4, 2) := by decide +kernel
theorem c237_67 : qcd 237 67 = some (.if_icmp .eq 49, 3) := by decide +kernel
theorem c237_70 : qcd 237 70 = some (.aload_n 0, 1) := by decide +kernel
theorem c237_71 : qcd 237 71 = some (.getfield 39, 3) := by decide +kernel
theorem c237_74 : qcd 237 74 = some (.aload_n 0, 1) := by decide +kernel
theorem c237_75 : qcd 237 75 = some (.getfield 31, 3) := by decide +kernel
theorem c237_78 : qcd 237 78 = some (.iload_n 1, 1) := by decide +kernel
theorem c237_79 : qcd 237 79 = some (.iaload, 1) := by decide +kernel
theorem c237_80 : qcd 237 80 = some (.aaload, 1) := by decide +kernel
theorem c237_81 : qcd 237 81 = some (.aload_n 0, 1) := by decide +kernel
theorem c237_82 : qcd 237 82 = some (.getfield 31, 3) := by decide +kernel
theorem c237_85 : qcd 237 85 = some (.iload_n 2, 1) := by decide +kernel
theorem c237_86 : qcd 237 86 = some (.iaload, 1) := by decide +kernel
theorem c237_87 : qcd 237 87 = some (.dup2, 1) := by decide +kernel
theorem c237_88 : qcd 237 88 = some (.laload, 1) := by decide +kernel
theorem c237_89 : qcd 237 89 = some (.iload_n 3, 1) := by decide +kernel
theorem c237_90 : qcd 237 90 = some (.i2l, 1) := by decide +kernel
theorem c237_91 : qcd 237 91 = some (.lsub, 1) := by decide +kernel
theorem c237_92 : qcd 237 92 = some (.lastore, 1) := by decide +kernel
theorem c237_93 : qcd 237 93 = some (.aload_n 0, 1) := by decide +kernel
theorem c237_94 : qcd 237 94 = some (.getfield 39, 3) := by decide +kernel
theorem c237_97 : qcd 237 97 = some (.aload_n 0, 1) := by decide +kernel
theorem c237_98 : qcd 237 98 = some (.getfield 31, 3) := by decide +kernel
theorem c237_101 : qcd 237 101 = some (.iload_n 2, 1) := by decide +kernel
theorem c237_102 : qcd 237 102 = some (.iaload, 1) := by decide +kernel
theorem c237_103 : qcd 237 103 = some (.aaload, 1) := by decide +kernel
theorem c237_104 : qcd 237 104 = some (.aload_n 0, 1) := by decide +kernel
theorem c237_105 : qcd 237 105 = some (.getfield 31, 3) := by decide +kernel
theorem c237_108 : qcd 237 108 = some (.iload_n 1, 1) := by decide +kernel
theorem c237_109 : qcd 237 109 = some (.iaload, 1) := by decide +kernel
theorem c237_110 : qcd 237 110 = some (.dup2, 1) := by decide +kernel
theorem c237_111 : qcd 237 111 = some (.laload, 1) := by decide +kernel
theorem c237_112 : qcd 237 112 = some (.iload_n 3, 1) := by decide +kernel
theorem c237_113 : qcd 237 113 = some (.i2l, 1) := by decide +kernel
theorem c237_114 : qcd 237 114 = some (.lsub, 1) := by decide +kernel
theorem c237_115 : qcd 237 115 = some (.lastore, 1) := by decide +kernel
theorem c237_116 : qcd 237 116 = some (.return_, 1) := by decide +kernel
theorem c238_0 : qcd 238 0 = some (.aload_n 0, 1) := by decide +kernel
theorem c238_1 : qcd 238 1 = some (.aload_n 2, 1) := by decide +kernel
theorem c238_2 : qcd 238 2 = some (.getfield 42, 3) := by decide +kernel
theorem c238_5 : qcd 238 5 = some (.putfield 48, 3) := by decide +kernel
theorem c238_8 : qcd 238 8 = some (.aload_n 0, 1) := by decide +kernel
theorem c238_9 : qcd 238 9 = some (.iconst 0, 1) := by decide +kernel
theorem c238_10 : qcd 238 10 = some (.putfield 49, 3) := by decide +kernel
theorem c238_13 : qcd 238 13 = some (.aload_n 0, 1) := by decide +kernel
theorem c238_14 : qcd 238 14 = some (.iconst 0, 1) := by decide +kernel
theorem c238_15 : qcd 238 15 = some (.putfield 52, 3) := by decide +kernel
theorem c238_18 : qcd 238 18 = some (.aload_n 0, 1) := by decide +kernel
theorem c238_19 : qcd 238 19 = some (.getfield 24, 3) := by decide +kernel
theorem c238_22 : qcd 238 22 = some (.lconst 0, 1) := by decide +kernel
theorem c238_23 : qcd 238 23 = some (.invokestatic 56, 3) := by decide +kernel
theorem c238_26 : qcd 238 26 = some (.aload_n 1, 1) := by decide +kernel
theorem c238_27 : qcd 238 27 = some (.aload_n 2, 1) := by decide +kernel
theorem c238_28 : qcd 238 28 = some (.iconst 0, 1) := by decide +kernel
theorem c238_29 : qcd 238 29 = some (.aload_n 0, 1) := by decide +kernel
theorem c238_30 : qcd 238 30 = some (.getfield 15, 3) := by decide +kernel
theorem c238_33 : qcd 238 33 = some (.invokevirtual 62, 3) := by decide +kernel
theorem c238_36 : qcd 238 36 = some (.iconst 0, 1) := by decide +kernel
theorem c238_37 : qcd 238 37 = some (.istore_n 3, 1) := by decide +kernel
theorem c238_38 : qcd 238 38 = some (.iload_n 3, 1) := by decide +kernel
theorem c238_39 : qcd 238 39 = some (.aload_n 1, 1) := by decide +kernel
theorem c238_40 : qcd 238 40 = some (.getfield 68, 3) := by decide +kernel
theorem c238_43 : qcd 238 43 = some (.if_icmp .ge 33, 3) := by decide +kernel
theorem c238_46 : qcd 238 46 = some (.aload_n 0, 1) := by decide +kernel
theorem c238_47 : qcd 238 47 = some (.getfield 15, 3) := by decide +kernel
theorem c238_50 : qcd 238 50 = some (.iload_n 3, 1) := by decide +kernel
theorem c238_51 : qcd 238 51 = some (.iaload, 1) := by decide +kernel
theorem c238_52 : qcd 238 52 = some (.iload_n 3, 1) := by decide +kernel
theorem c238_53 : qcd 238 53 = some (.if_icmp .ne 17, 3) := by decide +kernel
theorem c238_56 : qcd 238 56 = some (.aload_n 0, 1) := by decide +kernel
theorem c238_57 : qcd 238 57 = some (.aload_n 1, 1) := by decide +kernel
theorem c238_58 : qcd 238 58 = some (.aload_n 2, 1) := by decide +kernel
theorem c238_59 : qcd 238 59 = some (.iload_n 3, 1) := by decide +kernel
theorem c238_60 : qcd 238 60 = some (.invokevirtual 71, 3) := by decide +kernel
theorem c238_63 : qcd 238 63 = some (.aload_n 0, 1) := by decide +kernel
theorem c238_64 : qcd 238 64 = some (.aload_n 1, 1) := by decide +kernel
theorem c238_65 : qcd 238 65 = some (.aload_n 2, 1) := by decide +kernel
theorem c238_66 : qcd 238 66 = some (.iload_n 3, 1) := by decide +kernel
theorem c238_67 : qcd 238 67 = some (.invokevirtual 75, 3) := by decide +kernel
theorem c238_70 : qcd 238 70 = some (.iinc 3 1, 3) := by decide +kernel
theorem c238_73 : qcd 238 73 = some (.goto (-35), 3) := by decide +kernel
theorem c238_76 : qcd 238 76 = some (.return_, 1) := by decide +kernel
theorem c239_0 : qcd 239 0 = some (.iconst 0, 1) := by decide +kernel
theorem c239_1 : qcd 239 1 = some (.istore 4, 2) := by decide +kernel
theorem c239_3 : qcd 239 3 = some (.iconst 0, 1) := by decide +kernel
theorem c239_4 : qcd 239 4 = some (.istore 5, 2) := by decide +kernel
theorem c239_6 : qcd 239 6 = some (.iload 5, 2) := by decide +kernel
theorem c239_8 : qcd 239 8 = some (.aload_n 1, 1) := by decide +kernel
theorem c239_9 : qcd 239 9 = some (.getfield 78, 3) := by decide +kernel
theorem c239_12 : qcd 239 12 = some (.if_icmp .ge 46, 3) := by decide +kernel
theorem c239_15 : qcd 239 15 = some (.aload_n 2, 1) := by decide +kernel
theorem c239_16 : qcd 239 16 = some (.iload 5, 2) := by decide +kernel
theorem c239_18 : qcd 239 18 = some (.invokevirtual 81, 3) := by decide +kernel
theorem c239_21 : qcd 239 21 = some (.ifCond .eq 31, 3) := by decide +kernel
theorem c239_24 : qcd 239 24 = some (.aload_n 0, 1) := by decide +kernel
theorem c239_25 : qcd 239 25 = some (.getfield 15, 3) := by decide +kernel
theorem c239_28 : qcd 239 28 = some (.aload_n 1, 1) := by decide +kernel
theorem c239_29 : qcd 239 29 = some (.getfield 85, 3) := by decide +kernel
theorem c239_32 : qcd 239 32 = some (.iload 5, 2) := by decide +kernel
theorem c239_34 : qcd 239 34 = some (.iaload, 1) := by decide +kernel
theorem c239_35 : qcd 239 35 = some (.iaload, 1) := by decide +kernel
theorem c239_36 : qcd 239 36 = some (.iload_n 3, 1) := by decide +kernel
theorem c239_37 : qcd 239 37 = some (.if_icmp .ne 15, 3) := by decide +kernel
theorem c239_40 : qcd 239 40 = some (.iload 4, 2) := by decide +kernel
theorem c239_42 : qcd 239 42 = some (.aload_n 1, 1) := by decide +kernel
theorem c239_43 : qcd 239 43 = some (.getfield 88, 3) := by decide +kernel
theorem c239_46 : qcd 239 46 = some (.iload 5, 2) := by decide +kernel
theorem c239_48 : qcd 239 48 = some (.iaload, 1) := by decide +kernel
theorem c239_49 : qcd 239 49 = some (.iadd, 1) := by decide +kernel
theorem c239_50 : qcd 239 50 = some (.istore 4, 2) := by decide +kernel
theorem c239_52 : qcd 239 52 = some (.iinc 5 1, 3) := by decide +kernel
theorem c239_55 : qcd 239 55 = some (.goto (-49), 3) := by decide +kernel
theorem c239_58 : qcd 239 58 = some (.iconst 0, 1) := by decide +kernel
theorem c239_59 : qcd 239 59 = some (.istore 5, 2) := by decide +kernel
theorem c239_61 : qcd 239 61 = some (.iconst 0, 1) := by decide +kernel
theorem c239_62 : qcd 239 62 = some (.istore 6, 2) := by decide +kernel
theorem c239_64 : qcd 239 64 = some (.iload 6, 2) := by decide +kernel
theorem c239_66 : qcd 239 66 = some (.aload_n 1, 1) := by decide +kernel
theorem c239_67 : qcd 239 67 = some (.getfield 68, 3) := by decide +kernel
theorem c239_70 : qcd 239 70 = some (.if_icmp .ge 44, 3) := by decide +kernel
theorem c239_73 : qcd 239 73 = some (.aload_n 0, 1) := by decide +kernel
theorem c239_74 : qcd 239 74 = some (.getfield 15, 3) := by decide +kernel
theorem c239_77 : qcd 239 77 = some (.iload 6, 2) := by decide +kernel
theorem c239_79 : qcd 239 79 = some (.iaload, 1) := by decide +kernel
theorem c239_80 : qcd 239 80 = some (.iload_n 3, 1) := by decide +kernel
theorem c239_81 : qcd 239 81 = some (.if_icmp .ne 27, 3) := by decide +kernel
theorem c239_84 : qcd 239 84 = some (.aload_n 0, 1) := by decide +kernel
theorem c239_85 : qcd 239 85 = some (.getfield 48, 3) := by decide +kernel
theorem c239_88 : qcd 239 88 = some (.iload 6, 2) := by decide +kernel
theorem c239_90 : qcd 239 90 = some (.ishr, 1) := by decide +kernel
theorem c239_91 : qcd 239 91 = some (.iconst 1, 1) := by decide +kernel
theorem c239_92 : qcd 239 92 = some (.iand, 1) := by decide +kernel
theorem c239_93 : qcd 239 93 = some (.ifCond .ne 15, 3) := by decide +kernel
theorem c239_96 : qcd 239 96 = some (.iload 5, 2) := by decide +kernel
theorem c239_98 : qcd 239 98 = some (.aload_n 2, 1) := by decide +kernel
theorem c239_99 : qcd 239 99 = some (.getfield 91, 3) := by decide +kernel
theorem c239_102 : qcd 239 102 = some (.iload 6, 2) := by decide +kernel
theorem c239_104 : qcd 239 104 = some (.iaload, 1) := by decide +kernel
theorem c239_105 : qcd 239 105 = some (.iadd, 1) := by decide +kernel
theorem c239_106 : qcd 239 106 = some (.istore 5, 2) := by decide +kernel
theorem c239_108 : qcd 239 108 = some (.iinc 6 1, 3) := by decide +kernel
theorem c239_111 : qcd 239 111 = some (.goto (-47), 3) := by decide +kernel
theorem c239_114 : qcd 239 114 = some (.aload_n 1, 1) := by decide +kernel
theorem c239_115 : qcd 239 115 = some (.getfield 68, 3) := by decide +kernel
theorem c239_118 : qcd 239 118 = some (.iconst 1, 1) := by decide +kernel
theorem c239_119 : qcd 239 119 = some (.isub, 1) := by decide +kernel
theorem c239_120 : qcd 239 120 = some (.istore 6, 2) := by decide +kernel
theorem c239_122 : qcd 239 122 = some (.iload 6, 2) := by decide +kernel
theorem c239_124 : qcd 239 124 = some (.ifCond .lt 104, 3) := by decide +kernel
theorem c239_127 : qcd 239 127 = some (.iload 4, 2) := by decide +kernel
theorem c239_129 : qcd 239 129 = some (.iload 5, 2) := by decide +kernel
theorem c239_131 : qcd 239 131 = some (.if_icmp .ge 97, 3) := by decide +kernel
theorem c239_134 : qcd 239 134 = some (.aload_n 1, 1) := by decide +kernel
theorem c239_135 : qcd 239 135 = some (.getfield 94, 3) := by decide +kernel
theorem c239_138 : qcd 239 138 = some (.iload 6, 2) := by decide +kernel
theorem c239_140 : qcd 239 140 = some (.iaload, 1) := by decide +kernel
theorem c239_141 : qcd 239 141 = some (.istore 7, 2) := by decide +kernel
theorem c239_143 : qcd 239 143 = some (.aload_n 0, 1) := by decide +kernel
theorem c239_144 : qcd 239 144 = some (.getfield 15, 3) := by decide +kernel
theorem c239_147 : qcd 239 147 = some (.iload 7, 2) := by decide +kernel
theorem c239_149 : qcd 239 149 = some (.iaload, 1) := by decide +kernel
theorem c239_150 : qcd 239 150 = some (.iload_n 3, 1) := by decide +kernel
theorem c239_151 : qcd 239 151 = some (.if_icmp .ne 71, 3) := by decide +kernel
theorem c239_154 : qcd 239 154 = some (.aload_n 0, 1) := by decide +kernel
theorem c239_155 : qcd 239 155 = some (.getfield 48, 3) := by decide +kernel
theorem c239_158 : qcd 239 158 = some (.iload 7, 2) := by decide +kernel
theorem c239_160 : qcd 239 160 = some (.ishr, 1) := by decide +kernel
theorem c239_161 : qcd 239 161 = some (.iconst 1, 1) := by decide +kernel
theorem c239_162 : qcd 239 162 = some (.iand, 1) := by decide +kernel
theorem c239_163 : qcd 239 163 = some (.ifCond .ne 59, 3) := by decide +kernel
theorem c239_166 : qcd 239 166 = some (.aload_n 2, 1) := by decide +kernel
theorem c239_167 : qcd 239 167 = some (.getfield 91, 3) := by decide +kernel
theorem c239_170 : qcd 239 170 = some (.iload 7, 2) := by decide +kernel
theorem c239_172 : qcd 239 172 = some (.iaload, 1) := by decide +kernel
theorem c239_173 : qcd 239 173 = some (.ifCond .le 49, 3) := by decide +kernel
theorem c239_176 : qcd 239 176 = some (.aload_n 0, 1) := by decide +kernel
theorem c239_177 : qcd 239 177 = some (.dup, 1) := by decide +kernel
theorem c239_178 : qcd 239 178 = some (.getfield 48, 3) := by decide +kernel
theorem c239_181 : qcd 239 181 = some (.iconst 1, 1) := by decide +kernel
theorem c239_182 : qcd 239 182 = some (.iload 7, 2) := by decide +kernel
theorem c239_184 : qcd 239 184 = some (.ishl, 1) := by decide +kernel
theorem c239_185 : qcd 239 185 = some (.ior, 1) := by decide +kernel
theorem c239_186 : qcd 239 186 = some (.putfield 48, 3) := by decide +kernel
theorem c239_189 : qcd 239 189 = some (.aload_n 0, 1) := by decide +kernel
theorem c239_190 : qcd 239 190 = some (.getfield 9, 3) := by decide +kernel
theorem c239_193 : qcd 239 193 = some (.aload_n 0, 1) := by decide +kernel
theorem c239_194 : qcd 239 194 = some (.getfield 49, 3) := by decide +kernel
theorem c239_197 : qcd 239 197 = some (.iload 7, 2) := by decide +kernel
theorem c239_199 : qcd 239 199 = some (.iastore, 1) := by decide +kernel
theorem c239_200 : qcd 239 200 = some (.aload_n 0, 1) := by decide +kernel
theorem c239_201 : qcd 239 201 = some (.dup, 1) := by decide +kernel
theorem c239_202 : qcd 239 202 = some (.getfield 49, 3) := by decide +kernel
theorem c239_205 : qcd 239 205 = some (.iconst 1, 1) := by decide +kernel
theorem c239_206 : qcd 239 206 = some (.iadd, 1) := by decide +kernel
theorem c239_207 : qcd 239 207 = some (.putfield 49, 3) := by decide +kernel
theorem c239_210 : qcd 239 210 = some (.iload 5, 2) := by decide +kernel
theorem c239_212 : qcd 239 212 = some (.aload_n 2, 1) := by decide +kernel
theorem c239_213 : qcd 239 213 = some (.getfield 91, 3) := by decide +kernel
theorem c239_216 : qcd 239 216 = some (.iload 7, 2) := by decide +kernel
theorem c239_218 : qcd 239 218 = some (.iaload, 1) := by decide +kernel
theorem c239_219 : qcd 239 219 = some (.isub, 1) := by decide +kernel
theorem c239_220 : qcd 239 220 = some (.istore 5, 2) := by decide +kernel
theorem c239_222 : qcd 239 222 = some (.iinc 6 (-1), 3) := by decide +kernel
theorem c239_225 : qcd 239 225 = some (.goto (-103), 3) := by decide +kernel
theorem c239_228 : qcd 239 228 = some (.aload_n 0, 1) := by decide +kernel
theorem c239_229 : qcd 239 229 = some (.aload_n 1, 1) := by decide +kernel
theorem c239_230 : qcd 239 230 = some (.aload_n 2, 1) := by decide +kernel
theorem c239_231 : qcd 239 231 = some (.iload_n 3, 1) := by decide +kernel
theorem c239_232 : qcd 239 232 = some (.iload 4, 2) := by decide +kernel
theorem c239_234 : qcd 239 234 = some (.iload 5, 2) := by decide +kernel
theorem c239_236 : qcd 239 236 = some (.invokevirtual 97, 3) := by decide +kernel
theorem c239_239 : qcd 239 239 = some (.return_, 1) := by decide +kernel
theorem c240_0 : qcd 240 0 = some (.aload_n 0, 1) := by decide +kernel
theorem c240_1 : qcd 240 1 = some (.aload_n 1, 1) := by decide +kernel
theorem c240_2 : qcd 240 2 = some (.aload_n 2, 1) := by decide +kernel
theorem c240_3 : qcd 240 3 = some (.iload_n 3, 1) := by decide +kernel
theorem c240_4 : qcd 240 4 = some (.invokevirtual 110, 3) := by decide +kernel
theorem c240_7 : qcd 240 7 = some (.istore 4, 2) := by decide +kernel
theorem c240_9 : qcd 240 9 = some (.aload_n 0, 1) := by decide +kernel
theorem c240_10 : qcd 240 10 = some (.iload 4, 2) := by decide +kernel
theorem c240_12 : qcd 240 12 = some (.invokevirtual 114, 3) := by decide +kernel
theorem c240_15 : qcd 240 15 = some (.lstore 5, 2) := by decide +kernel
theorem c240_17 : qcd 240 17 = some (.lload 5, 2) := by decide +kernel
theorem c240_19 : qcd 240 19 = some (.lconst 0, 1) := by decide +kernel
theorem c240_20 : qcd 240 20 = some (.lcmp, 1) := by decide +kernel
theorem c240_21 : qcd 240 21 = some (.ifCond .ne 4, 3) := by decide +kernel
theorem c240_24 : qcd 240 24 = some (.return_, 1) := by decide +kernel
theorem c240_25 : qcd 240 25 = some (.iconst 0, 1) := by decide +kernel
theorem c240_26 : qcd 240 26 = some (.istore 7, 2) := by decide +kernel
theorem c240_28 : qcd 240 28 = some (.iload 7, 2) := by decide +kernel
theorem c240_30 : qcd 240 30 = some (.aload_n 1, 1) := by decide +kernel
theorem c240_31 : qcd 240 31 = some (.getfield 68, 3) := by decide +kernel
theorem c240_34 : qcd 240 34 = some (.if_icmp .ge 52, 3) := by decide +kernel
theorem c240_37 : qcd 240 37 = some (.aload_n 0, 1) := by decide +kernel
theorem c240_38 : qcd 240 38 = some (.getfield 34, 3) := by decide +kernel
theorem c240_41 : qcd 240 41 = some (.iload 7, 2) := by decide +kernel
theorem c240_43 : qcd 240 43 = some (.iload 7, 2) := by decide +kernel
theorem c240_45 : qcd 240 45 = some (.iload_n 3, 1) := by decide +kernel
theorem c240_46 : qcd 240 46 = some (.if_icmp .eq 14, 3) := by decide +kernel
theorem c240_49 : qcd 240 49 = some (.aload_n 0, 1) := by decide +kernel
theorem c240_50 : qcd 240 50 = some (.getfield 15, 3) := by decide +kernel
theorem c240_53 : qcd 240 53 = some (.iload 7, 2) := by decide +kernel
theorem c240_55 : qcd 240 55 = some (.iaload, 1) := by decide +kernel
theorem c240_56 : qcd 240 56 = some (.iload_n 3, 1) := by decide +kernel
theorem c240_57 : qcd 240 57 = some (.if_icmp .eq 7, 3) := by decide +kernel
theorem c240_60 : qcd 240 60 = some (.lconst 0, 1) := by decide +kernel
theorem c240_61 : qcd 240 61 = some (.goto 18, 3) := by decide +kernel
theorem c240_64 : qcd 240 64 = some (.aload_n 0, 1) := by decide +kernel
theorem c240_65 : qcd 240 65 = some (.getfield 39, 3) := by decide +kernel
theorem c240_68 : qcd 240 68 = some (.aload_n 0, 1) := by decide +kernel
theorem c240_69 : qcd 240 69 = some (.getfield 31, 3) := by decide +kernel
theorem c240_72 : qcd 240 72 = some (.iload 7, 2) := by decide +kernel
theorem c240_74 : qcd 240 74 = some (.iaload, 1) := by decide +kernel
theorem c240_75 : qcd 240 75 = some (.aaload, 1) := by decide +kernel
theorem c240_76 : qcd 240 76 = some (.iload 4, 2) := by decide +kernel
theorem c240_78 : qcd 240 78 = some (.laload, 1) := by decide +kernel
theorem c240_79 : qcd 240 79 = some (.lastore, 1) := by decide +kernel
theorem c240_80 : qcd 240 80 = some (.iinc 7 1, 3) := by decide +kernel
theorem c240_83 : qcd 240 83 = some (.goto (-55), 3) := by decide +kernel
theorem c240_86 : qcd 240 86 = some (.iconst 0, 1) := by decide +kernel
theorem c240_87 : qcd 240 87 = some (.istore 7, 2) := by decide +kernel
theorem c240_89 : qcd 240 89 = some (.iload 7, 2) := by decide +kernel
theorem c240_91 : qcd 240 91 = some (.aload_n 1, 1) := by decide +kernel
theorem c240_92 : qcd 240 92 = some (.getfield 118, 3) := by decide +kernel
theorem c240_95 : qcd 240 95 = some (.if_icmp .ge 121, 3) := by decide +kernel
theorem c240_98 : qcd 240 98 = some (.aload_n 2, 1) := by decide +kernel
theorem c240_99 : qcd 240 99 = some (.getfield 121, 3) := by decide +kernel
theorem c240_102 : qcd 240 102 = some (.iload 7, 2) := by decide +kernel
theorem c240_104 : qcd 240 104 = some (.iaload, 1) := by decide +kernel
theorem c240_105 : qcd 240 105 = some (.ifCond .ne 105, 3) := by decide +kernel
theorem c240_108 : qcd 240 108 = some (.aload_n 0, 1) := by decide +kernel
theorem c240_109 : qcd 240 109 = some (.getfield 15, 3) := by decide +kernel
theorem c240_112 : qcd 240 112 = some (.aload_n 1, 1) := by decide +kernel
theorem c240_113 : qcd 240 113 = some (.getfield 124, 3) := by decide +kernel
theorem c240_116 : qcd 240 116 = some (.iload 7, 2) := by decide +kernel
theorem c240_118 : qcd 240 118 = some (.iaload, 1) := by decide +kernel
theorem c240_119 : qcd 240 119 = some (.iaload, 1) := by decide +kernel
theorem c240_120 : qcd 240 120 = some (.iload_n 3, 1) := by decide +kernel
theorem c240_121 : qcd 240 121 = some (.if_icmp .ne 89, 3) := by decide +kernel
theorem c240_124 : qcd 240 124 = some (.aload_n 1, 1) := by decide +kernel
theorem c240_125 : qcd 240 125 = some (.getfield 127, 3) := by decide +kernel
theorem c240_128 : qcd 240 128 = some (.iload 7, 2) := by decide +kernel
theorem c240_130 : qcd 240 130 = some (.iaload, 1) := by decide +kernel
theorem c240_131 : qcd 240 131 = some (.i2l, 1) := by decide +kernel
theorem c240_132 : qcd 240 132 = some (.aload_n 0, 1) := by decide +kernel
theorem c240_133 : qcd 240 133 = some (.getfield 34, 3) := by decide +kernel
theorem c240_136 : qcd 240 136 = some (.aload_n 1, 1) := by decide +kernel
theorem c240_137 : qcd 240 137 = some (.getfield 124, 3) := by decide +kernel
theorem c240_140 : qcd 240 140 = some (.iload 7, 2) := by decide +kernel
theorem c240_142 : qcd 240 142 = some (.iaload, 1) := by decide +kernel
theorem c240_143 : qcd 240 143 = some (.laload, 1) := by decide +kernel
theorem c240_144 : qcd 240 144 = some (.aload_n 0, 1) := by decide +kernel
theorem c240_145 : qcd 240 145 = some (.getfield 34, 3) := by decide +kernel
theorem c240_148 : qcd 240 148 = some (.aload_n 1, 1) := by decide +kernel
theorem c240_149 : qcd 240 149 = some (.getfield 130, 3) := by decide +kernel
theorem c240_152 : qcd 240 152 = some (.iload 7, 2) := by decide +kernel
theorem c240_154 : qcd 240 154 = some (.iaload, 1) := by decide +kernel
theorem c240_155 : qcd 240 155 = some (.laload, 1) := by decide +kernel
theorem c240_156 : qcd 240 156 = some (.lsub, 1) := by decide +kernel
theorem c240_157 : qcd 240 157 = some (.lmul, 1) := by decide +kernel
theorem c240_158 : qcd 240 158 = some (.lstore 8, 2) := by decide +kernel
theorem c240_160 : qcd 240 160 = some (.aload_n 0, 1) := by decide +kernel
theorem c240_161 : qcd 240 161 = some (.getfield 24, 3) := by decide +kernel
theorem c240_164 : qcd 240 164 = some (.iload 7, 2) := by decide +kernel
theorem c240_166 : qcd 240 166 = some (.lload 8, 2) := by decide +kernel
theorem c240_168 : qcd 240 168 = some (.ldc2_w 133, 3) := by decide +kernel
theorem c240_171 : qcd 240 171 = some (.lmul, 1) := by decide +kernel
theorem c240_172 : qcd 240 172 = some (.lload 5, 2) := by decide +kernel
theorem c240_174 : qcd 240 174 = some (.ldiv, 1) := by decide +kernel
theorem c240_175 : qcd 240 175 = some (.lastore, 1) := by decide +kernel
theorem c240_176 : qcd 240 176 = some (.aload_n 0, 1) := by decide +kernel
theorem c240_177 : qcd 240 177 = some (.dup, 1) := by decide +kernel
theorem c240_178 : qcd 240 178 = some (.getfield 52, 3) := by decide +kernel
theorem c240_181 : qcd 240 181 = some (.lload 8, 2) := by decide +kernel
theorem c240_183 : qcd 240 183 = some (.invokestatic 135, 3) := by decide +kernel
theorem c240_186 : qcd 240 186 = some (.aload_n 1, 1) := by decide +kernel
theorem c240_187 : qcd 240 187 = some (.getfield 139, 3) := by decide +kernel
theorem c240_190 : qcd 240 190 = some (.iload 7, 2) := by decide +kernel
theorem c240_192 : qcd 240 192 = some (.iaload, 1) := by decide +kernel
theorem c240_193 : qcd 240 193 = some (.i2l, 1) := by decide +kernel
theorem c240_194 : qcd 240 194 = some (.lload 5, 2) := by decide +kernel
theorem c240_196 : qcd 240 196 = some (.lmul, 1) := by decide +kernel
theorem c240_197 : qcd 240 197 = some (.lcmp, 1) := by decide +kernel
theorem c240_198 : qcd 240 198 = some (.ifCond .le 7, 3) := by decide +kernel
theorem c240_201 : qcd 240 201 = some (.iconst 1, 1) := by decide +kernel
theorem c240_202 : qcd 240 202 = some (.goto 4, 3) := by decide +kernel
theorem c240_205 : qcd 240 205 = some (.iconst 0, 1) := by decide +kernel
theorem c240_206 : qcd 240 206 = some (.ior, 1) := by decide +kernel
theorem c240_207 : qcd 240 207 = some (.putfield 52, 3) := by decide +kernel
theorem c240_210 : qcd 240 210 = some (.iinc 7 1, 3) := by decide +kernel
theorem c240_213 : qcd 240 213 = some (.goto (-124), 3) := by decide +kernel
theorem c240_216 : qcd 240 216 = some (.return_, 1) := by decide +kernel
theorem c241_0 : qcd 241 0 = some (.aload_n 0, 1) := by decide +kernel
theorem c241_1 : qcd 241 1 = some (.aload_n 1, 1) := by decide +kernel
theorem c241_2 : qcd 241 2 = some (.getfield 24, 3) := by decide +kernel
theorem c241_5 : qcd 241 5 = some (.putfield 24, 3) := by decide +kernel
theorem c241_8 : qcd 241 8 = some (.aload_n 0, 1) := by decide +kernel
theorem c241_9 : qcd 241 9 = some (.aload_n 1, 1) := by decide +kernel
theorem c241_10 : qcd 241 10 = some (.getfield 28, 3) := by decide +kernel
theorem c241_13 : qcd 241 13 = some (.putfield 28, 3) := by decide +kernel
theorem c241_16 : qcd 241 16 = some (.aload_n 0, 1) := by decide +kernel
theorem c241_17 : qcd 241 17 = some (.aload_n 1, 1) := by decide +kernel
theorem c241_18 : qcd 241 18 = some (.getfield 31, 3) := by decide +kernel
theorem c241_21 : qcd 241 21 = some (.putfield 31, 3) := by decide +kernel
theorem c241_24 : qcd 241 24 = some (.aload_n 0, 1) := by decide +kernel
theorem c241_25 : qcd 241 25 = some (.aload_n 1, 1) := by decide +kernel
theorem c241_26 : qcd 241 26 = some (.getfield 34, 3) := by decide +kernel
theorem c241_29 : qcd 241 29 = some (.putfield 34, 3) := by decide +kernel
theorem c241_32 : qcd 241 32 = some (.aload_n 1, 1) := by decide +kernel
theorem c241_33 : qcd 241 33 = some (.getfield 9, 3) := by decide +kernel
theorem c241_36 : qcd 241 36 = some (.iconst 0, 1) := by decide +kernel
theorem c241_37 : qcd 241 37 = some (.aload_n 0, 1) := by decide +kernel
theorem c241_38 : qcd 241 38 = some (.getfield 9, 3) := by decide +kernel
theorem c241_41 : qcd 241 41 = some (.iconst 0, 1) := by decide +kernel
theorem c241_42 : qcd 241 42 = some (.bipush 8, 2) := by decide +kernel
theorem c241_44 : qcd 241 44 = some (.invokestatic 37, 3) := by decide +kernel
theorem c241_47 : qcd 241 47 = some (.aload_n 1, 1) := by decide +kernel
theorem c241_48 : qcd 241 48 = some (.getfield 15, 3) := by decide +kernel
theorem c241_51 : qcd 241 51 = some (.iconst 0, 1) := by decide +kernel
theorem c241_52 : qcd 241 52 = some (.aload_n 0, 1) := by decide +kernel
theorem c241_53 : qcd 241 53 = some (.getfield 15, 3) := by decide +kernel
theorem c241_56 : qcd 241 56 = some (.iconst 0, 1) := by decide +kernel
theorem c241_57 : qcd 241 57 = some (.bipush 14, 2) := by decide +kernel
theorem c241_59 : qcd 241 59 = some (.invokestatic 37, 3) := by decide +kernel
theorem c241_62 : qcd 241 62 = some (.aload_n 1, 1) := by decide +kernel
theorem c241_63 : qcd 241 63 = some (.getfield 18, 3) := by decide +kernel
theorem c241_66 : qcd 241 66 = some (.iconst 0, 1) := by decide +kernel
theorem c241_67 : qcd 241 67 = some (.aload_n 0, 1) := by decide +kernel
theorem c241_68 : qcd 241 68 = some (.getfield 18, 3) := by decide +kernel
theorem c241_71 : qcd 241 71 = some (.iconst 0, 1) := by decide +kernel
theorem c241_72 : qcd 241 72 = some (.bipush 14, 2) := by decide +kernel
theorem c241_74 : qcd 241 74 = some (.invokestatic 37, 3) := by decide +kernel
theorem c241_77 : qcd 241 77 = some (.aload_n 1, 1) := by decide +kernel
theorem c241_78 : qcd 241 78 = some (.getfield 21, 3) := by decide +kernel
theorem c241_81 : qcd 241 81 = some (.iconst 0, 1) := by decide +kernel
theorem c241_82 : qcd 241 82 = some (.aload_n 0, 1) := by decide +kernel
theorem c241_83 : qcd 241 83 = some (.getfield 21, 3) := by decide +kernel
theorem c241_86 : qcd 241 86 = some (.iconst 0, 1) := by decide +kernel
theorem c241_87 : qcd 241 87 = some (.bipush 14, 2) := by decide +kernel
theorem c241_89 : qcd 241 89 = some (.invokestatic 37, 3) := by decide +kernel
theorem c241_92 : qcd 241 92 = some (.return_, 1) := by decide +kernel
theorem c242_0 : qcd 242 0 = some (.aload_n 0, 1) := by decide +kernel
theorem c242_1 : qcd 242 1 = some (.invokespecial 3, 3) := by decide +kernel
theorem c242_4 : qcd 242 4 = some (.aload_n 0, 1) := by decide +kernel
theorem c242_5 : qcd 242 5 = some (.bipush 8, 2) := by decide +kernel
theorem c242_7 : qcd 242 7 = some (.newarray .int, 2) := by decide +kernel
theorem c242_9 : qcd 242 9 = some (.putfield 9, 3) := by decide +kernel
theorem c242_12 : qcd 242 12 = some (.aload_n 0, 1) := by decide +kernel
theorem c242_13 : qcd 242 13 = some (.bipush 14, 2) := by decide +kernel
theorem c242_15 : qcd 242 15 = some (.newarray .int, 2) := by decide +kernel
theorem c242_17 : qcd 242 17 = some (.putfield 15, 3) := by decide +kernel
theorem c242_20 : qcd 242 20 = some (.aload_n 0, 1) := by decide +kernel
theorem c242_21 : qcd 242 21 = some (.bipush 14, 2) := by decide +kernel
theorem c242_23 : qcd 242 23 = some (.newarray .int, 2) := by decide +kernel
theorem c242_25 : qcd 242 25 = some (.putfield 18, 3) := by decide +kernel
theorem c242_28 : qcd 242 28 = some (.aload_n 0, 1) := by decide +kernel
theorem c242_29 : qcd 242 29 = some (.bipush 14, 2) := by decide +kernel
theorem c242_31 : qcd 242 31 = some (.newarray .int, 2) := by decide +kernel
theorem c242_33 : qcd 242 33 = some (.putfield 21, 3) := by decide +kernel
theorem c242_36 : qcd 242 36 = some (.return_, 1) := by decide +kernel
theorem c243_0 : qcd 243 0 = some (.aload_n 0, 1) := by decide +kernel
theorem c243_1 : qcd 243 1 = some (.getfield 28, 3) := by decide +kernel
theorem c243_4 : qcd 243 4 = some (.iload_n 1, 1) := by decide +kernel
theorem c243_5 : qcd 243 5 = some (.ishr, 1) := by decide +kernel
theorem c243_6 : qcd 243 6 = some (.iconst 1, 1) := by decide +kernel
theorem c243_7 : qcd 243 7 = some (.iand, 1) := by decide +kernel
theorem c243_8 : qcd 243 8 = some (.iconst 1, 1) := by decide +kernel
theorem c243_9 : qcd 243 9 = some (.if_icmp .ne 7, 3) := by decide +kernel
theorem c243_12 : qcd 243 12 = some (.iconst 1, 1) := by decide +kernel
theorem c243_13 : qcd 243 13 = some (.goto 4, 3) := by decide +kernel
theorem c243_16 : qcd 243 16 = some (.iconst 0, 1) := by decide +kernel
theorem c243_17 : qcd 243 17 = some (.ireturn, 1) := by decide +kernel
theorem c244_0 : qcd 244 0 = some (.iconst 0, 1) := by decide +kernel
theorem c244_1 : qcd 244 1 = some (.istore_n 2, 1) := by decide +kernel
theorem c244_2 : qcd 244 2 = some (.iconst 0, 1) := by decide +kernel
theorem c244_3 : qcd 244 3 = some (.istore_n 3, 1) := by decide +kernel
theorem c244_4 : qcd 244 4 = some (.iload_n 3, 1) := by decide +kernel
theorem c244_5 : qcd 244 5 = some (.bipush 8, 2) := by decide +kernel
theorem c244_7 : qcd 244 7 = some (.if_icmp .ge 27, 3) := by decide +kernel
theorem c244_10 : qcd 244 10 = some (.iload_n 1, 1) := by decide +kernel
theorem c244_11 : qcd 244 11 = some (.iload_n 3, 1) := by decide +kernel
theorem c244_12 : qcd 244 12 = some (.ishr, 1) := by decide +kernel
theorem c244_13 : qcd 244 13 = some (.iconst 1, 1) := by decide +kernel
theorem c244_14 : qcd 244 14 = some (.iand, 1) := by decide +kernel
theorem c244_15 : qcd 244 15 = some (.iconst 1, 1) := by decide +kernel
theorem c244_16 : qcd 244 16 = some (.if_icmp .ne 12, 3) := by decide +kernel
theorem c244_19 : qcd 244 19 = some (.iload_n 2, 1) := by decide +kernel
theorem c244_20 : qcd 244 20 = some (.aload_n 0, 1) := by decide +kernel
theorem c244_21 : qcd 244 21 = some (.getfield 9, 3) := by decide +kernel
theorem c244_24 : qcd 244 24 = some (.iload_n 3, 1) := by decide +kernel
theorem c244_25 : qcd 244 25 = some (.iaload, 1) := by decide +kernel
theorem c244_26 : qcd 244 26 = some (.iadd, 1) := by decide +kernel
theorem c244_27 : qcd 244 27 = some (.istore_n 2, 1) := by decide +kernel
theorem c244_28 : qcd 244 28 = some (.iinc 3 1, 3) := by decide +kernel
theorem c244_31 : qcd 244 31 = some (.goto (-27), 3) := by decide +kernel
theorem c244_34 : qcd 244 34 = some (.iload_n 2, 1) := by decide +kernel
theorem c244_35 : qcd 244 35 = some (.ireturn, 1) := by decide +kernel
theorem c245_0 : qcd 245 0 = some (.aload_n 0, 1) := by decide +kernel
theorem c245_1 : qcd 245 1 = some (.getfield 31, 3) := by decide +kernel
theorem c245_4 : qcd 245 4 = some (.iload_n 1, 1) := by decide +kernel
theorem c245_5 : qcd 245 5 = some (.ishr, 1) := by decide +kernel
theorem c245_6 : qcd 245 6 = some (.iconst 1, 1) := by decide +kernel
theorem c245_7 : qcd 245 7 = some (.iand, 1) := by decide +kernel
theorem c245_8 : qcd 245 8 = some (.iconst 1, 1) := by decide +kernel
theorem c245_9 : qcd 245 9 = some (.if_icmp .ne 7, 3) := by decide +kernel
theorem c245_12 : qcd 245 12 = some (.iconst 1, 1) := by decide +kernel
theorem c245_13 : qcd 245 13 = some (.goto 4, 3) := by decide +kernel
theorem c245_16 : qcd 245 16 = some (.iconst 0, 1) := by decide +kernel
theorem c245_17 : qcd 245 17 = some (.ireturn, 1) := by decide +kernel
theorem c246_0 : qcd 246 0 = some (.bipush 24, 2) := by decide +kernel
theorem c246_2 : qcd 246 2 = some (.istore_n 2, 1) := by decide +kernel
theorem c246_3 : qcd 246 3 = some (.iload_n 2, 1) := by decide +kernel
theorem c246_4 : qcd 246 4 = some (.ifCond .lt 45, 3) := by decide +kernel
theorem c246_7 : qcd 246 7 = some (.aload_n 0, 1) := by decide +kernel
theorem c246_8 : qcd 246 8 = some (.getfield 13, 3) := by decide +kernel
theorem c246_11 : qcd 246 11 = some (.sipush 200, 3) := by decide +kernel
theorem c246_14 : qcd 246 14 = some (.if_icmp .ge 29, 3) := by decide +kernel
theorem c246_17 : qcd 246 17 = some (.aload_n 0, 1) := by decide +kernel
theorem c246_18 : qcd 246 18 = some (.getfield 9, 3) := by decide +kernel
theorem c246_21 : qcd 246 21 = some (.aload_n 0, 1) := by decide +kernel
theorem c246_22 : qcd 246 22 = some (.getfield 13, 3) := by decide +kernel
theorem c246_25 : qcd 246 25 = some (.iload_n 1, 1) := by decide +kernel
theorem c246_26 : qcd 246 26 = some (.iload_n 2, 1) := by decide +kernel
theorem c246_27 : qcd 246 27 = some (.iushr, 1) := by decide +kernel
theorem c246_28 : qcd 246 28 = some (.sipush 255, 3) := by decide +kernel
theorem c246_31 : qcd 246 31 = some (.iand, 1) := by decide +kernel
theorem c246_32 : qcd 246 32 = some (.iastore, 1) := by decide +kernel
theorem c246_33 : qcd 246 33 = some (.aload_n 0, 1) := by decide +kernel
theorem c246_34 : qcd 246 34 = some (.dup, 1) := by decide +kernel
theorem c246_35 : qcd 246 35 = some (.getfield 13, 3) := by decide +kernel
theorem c246_38 : qcd 246 38 = some (.iconst 1, 1) := by decide +kernel
theorem c246_39 : qcd 246 39 = some (.iadd, 1) := by decide +kernel
theorem c246_40 : qcd 246 40 = some (.putfield 13, 3) := by decide +kernel
theorem c246_43 : qcd 246 43 = some (.iinc 2 (-8), 3) := by decide +kernel
theorem c246_46 : qcd 246 46 = some (.goto (-43), 3) := by decide +kernel
theorem c246_49 : qcd 246 49 = some (.return_, 1) := by decide +kernel
theorem c247_0 : qcd 247 0 = some (.aload_n 0, 1) := by decide +kernel
theorem c247_1 : qcd 247 1 = some (.getfield 13, 3) := by decide +kernel
theorem c247_4 : qcd 247 4 = some (.sipush 180, 3) := by decide +kernel
theorem c247_7 : qcd 247 7 = some (.if_icmp .gt 7, 3) := by decide +kernel
theorem c247_10 : qcd 247 10 = some (.iconst 1, 1) := by decide +kernel
theorem c247_11 : qcd 247 11 = some (.goto 4, 3) := by decide +kernel
theorem c247_14 : qcd 247 14 = some (.iconst 0, 1) := by decide +kernel
theorem c247_15 : qcd 247 15 = some (.ireturn, 1) := by decide +kernel
theorem c248_0 : qcd 248 0 = some (.aload_n 0, 1) := by decide +kernel
theorem c248_1 : qcd 248 1 = some (.invokespecial 1, 3) := by decide +kernel
theorem c248_4 : qcd 248 4 = some (.aload_n 0, 1) := by decide +kernel
theorem c248_5 : qcd 248 5 = some (.sipush 200, 3) := by decide +kernel
theorem c248_8 : qcd 248 8 = some (.newarray .int, 2) := by decide +kernel
theorem c248_10 : qcd 248 10 = some (.putfield 9, 3) := by decide +kernel
theorem c248_13 : qcd 248 13 = some (.return_, 1) := by decide +kernel
theorem c249_0 : qcd 249 0 = some (.iconst 0, 1) := by decide +kernel
theorem c249_1 : qcd 249 1 = some (.istore_n 2, 1) := by decide +kernel
theorem c249_2 : qcd 249 2 = some (.iconst 4, 1) := by decide +kernel
theorem c249_3 : qcd 249 3 = some (.iload_n 1, 1) := by decide +kernel
theorem c249_4 : qcd 249 4 = some (.imul, 1) := by decide +kernel
theorem c249_5 : qcd 249 5 = some (.istore_n 3, 1) := by decide +kernel
theorem c249_6 : qcd 249 6 = some (.iload_n 3, 1) := by decide +kernel
theorem c249_7 : qcd 249 7 = some (.iconst 4, 1) := by decide +kernel
theorem c249_8 : qcd 249 8 = some (.iload_n 1, 1) := by decide +kernel
theorem c249_9 : qcd 249 9 = some (.imul, 1) := by decide +kernel
theorem c249_10 : qcd 249 10 = some (.iconst 4, 1) := by decide +kernel
theorem c249_11 : qcd 249 11 = some (.iadd, 1) := by decide +kernel
theorem c249_12 : qcd 249 12 = some (.if_icmp .ge 36, 3) := by decide +kernel
theorem c249_15 : qcd 249 15 = some (.iload_n 2, 1) := by decide +kernel
theorem c249_16 : qcd 249 16 = some (.bipush 8, 2) := by decide +kernel
theorem c249_18 : qcd 249 18 = some (.ishl, 1) := by decide +kernel
theorem c249_19 : qcd 249 19 = some (.iload_n 3, 1) := by decide +kernel
theorem c249_20 : qcd 249 20 = some (.ifCond .lt 19, 3) := by decide +kernel
theorem c249_23 : qcd 249 23 = some (.iload_n 3, 1) := by decide +kernel
theorem c249_24 : qcd 249 24 = some (.sipush 200, 3) := by decide +kernel
theorem c249_27 : qcd 249 27 = some (.if_icmp .ge 12, 3) := by decide +kernel
theorem c249_30 : qcd 249 30 = some (.aload_n 0, 1) := by decide +kernel
theorem c249_31 : qcd 249 31 = some (.getfield 9, 3) := by decide +kernel
theorem c249_34 : qcd 249 34 = some (.iload_n 3, 1) := by decide +kernel
theorem c249_35 : qcd 249 35 = some (.iaload, 1) := by decide +kernel
theorem c249_36 : qcd 249 36 = some (.goto 4, 3) := by decide +kernel
theorem c249_39 : qcd 249 39 = some (.iconst 0, 1) := by decide +kernel
theorem c249_40 : qcd 249 40 = some (.ior, 1) := by decide +kernel
theorem c249_41 : qcd 249 41 = some (.istore_n 2, 1) := by decide +kernel
theorem c249_42 : qcd 249 42 = some (.iinc 3 1, 3) := by decide +kernel
theorem c249_45 : qcd 249 45 = some (.goto (-39), 3) := by decide +kernel
theorem c249_48 : qcd 249 48 = some (.iload_n 2, 1) := by decide +kernel
theorem c249_49 : qcd 249 49 = some (.ireturn, 1) := by decide +kernel
theorem c250_0 : qcd 250 0 = some (.aload_n 0, 1) := by decide +kernel
theorem c250_1 : qcd 250 1 = some (.getfield 48, 3) := by decide +kernel
theorem c250_4 : qcd 250 4 = some (.bipush 12, 2) := by decide +kernel
theorem c250_6 : qcd 250 6 = some (.if_icmp .ge 39, 3) := by decide +kernel
theorem c250_9 : qcd 250 9 = some (.aload_n 0, 1) := by decide +kernel
theorem c250_10 : qcd 250 10 = some (.getfield 24, 3) := by decide +kernel
theorem c250_13 : qcd 250 13 = some (.aload_n 0, 1) := by decide +kernel
theorem c250_14 : qcd 250 14 = some (.getfield 48, 3) := by decide +kernel
theorem c250_17 : qcd 250 17 = some (.aload_n 0, 1) := by decide +kernel
theorem c250_18 : qcd 250 18 = some (.getfield 81, 3) := by decide +kernel
theorem c250_21 : qcd 250 21 = some (.bastore, 1) := by decide +kernel
theorem c250_22 : qcd 250 22 = some (.aload_n 0, 1) := by decide +kernel
theorem c250_23 : qcd 250 23 = some (.getfield 21, 3) := by decide +kernel
theorem c250_26 : qcd 250 26 = some (.aload_n 0, 1) := by decide +kernel
theorem c250_27 : qcd 250 27 = some (.getfield 48, 3) := by decide +kernel
theorem c250_30 : qcd 250 30 = some (.aload_n 0, 1) := by decide +kernel
theorem c250_31 : qcd 250 31 = some (.getfield 54, 3) := by decide +kernel
theorem c250_34 : qcd 250 34 = some (.iastore, 1) := by decide +kernel
theorem c250_35 : qcd 250 35 = some (.aload_n 0, 1) := by decide +kernel
theorem c250_36 : qcd 250 36 = some (.dup, 1) := by decide +kernel
theorem c250_37 : qcd 250 37 = some (.getfield 48, 3) := by decide +kernel
theorem c250_40 : qcd 250 40 = some (.iconst 1, 1) := by decide +kernel
theorem c250_41 : qcd 250 41 = some (.iadd, 1) := by decide +kernel
theorem c250_42 : qcd 250 42 = some (.putfield 48, 3) := by decide +kernel
theorem c250_45 : qcd 250 45 = some (.return_, 1) := by decide +kernel
