theorem d_Pl_endBentTo_0 : decode b_Pl_endBentTo 0 = .ok (.iconst 2, 1) := by decide +kernel
theorem d_Pl_endBentTo_1 : decode b_Pl_endBentTo 1 = .ok (.iload_n 1, 1) := by decide +kernel
theorem d_Pl_endBentTo_2 : decode b_Pl_endBentTo 2 = .ok (.imul, 1) := by decide +kernel
theorem d_Pl_endBentTo_3 : decode b_Pl_endBentTo 3 = .ok (.istore_n 3, 1) := by decide +kernel
theorem d_Pl_endBentTo_4 : decode b_Pl_endBentTo 4 = .ok (.iload_n 3, 1) := by decide +kernel
theorem d_Pl_endBentTo_5 : decode b_Pl_endBentTo 5 = .ok (.iconst 2, 1) := by decide +kernel
theorem d_Pl_endBentTo_6 : decode b_Pl_endBentTo 6 = .ok (.iload_n 1, 1) := by decide +kernel
theorem d_Pl_endBentTo_7 : decode b_Pl_endBentTo 7 = .ok (.imul, 1) := by decide +kernel
theorem d_Pl_endBentTo_8 : decode b_Pl_endBentTo 8 = .ok (.iconst 1, 1) := by decide +kernel
theorem d_Pl_endBentTo_9 : decode b_Pl_endBentTo 9 = .ok (.iadd, 1) := by decide +kernel
theorem d_Pl_endBentTo_10 : decode b_Pl_endBentTo 10 = .ok (.if_icmp .gt 33, 3) := by decide +kernel
theorem d_Pl_endBentTo_13 : decode b_Pl_endBentTo 13 = .ok (.aload_n 0, 1) := by decide +kernel
theorem d_Pl_endBentTo_14 : decode b_Pl_endBentTo 14 = .ok (.getfield 45, 3) := by decide +kernel
theorem d_Pl_endBentTo_17 : decode b_Pl_endBentTo 17 = .ok (.iload_n 3, 1) := by decide +kernel
theorem d_Pl_endBentTo_18 : decode b_Pl_endBentTo 18 = .ok (.iaload, 1) := by decide +kernel
theorem d_Pl_endBentTo_19 : decode b_Pl_endBentTo 19 = .ok (.iconst (-1), 1) := by decide +kernel
theorem d_Pl_endBentTo_20 : decode b_Pl_endBentTo 20 = .ok (.if_icmp .eq 17, 3) := by decide +kernel
theorem d_Pl_endBentTo_23 : decode b_Pl_endBentTo 23 = .ok (.aload_n 0, 1) := by decide +kernel
theorem d_Pl_endBentTo_24 : decode b_Pl_endBentTo 24 = .ok (.getfield 45, 3) := by decide +kernel
theorem d_Pl_endBentTo_27 : decode b_Pl_endBentTo 27 = .ok (.iload_n 3, 1) := by decide +kernel
theorem d_Pl_endBentTo_28 : decode b_Pl_endBentTo 28 = .ok (.iaload, 1) := by decide +kernel
theorem d_Pl_endBentTo_29 : decode b_Pl_endBentTo 29 = .ok (.iconst 2, 1) := by decide +kernel
theorem d_Pl_endBentTo_30 : decode b_Pl_endBentTo 30 = .ok (.idiv, 1) := by decide +kernel
theorem d_Pl_endBentTo_31 : decode b_Pl_endBentTo 31 = .ok (.iload_n 2, 1) := by decide +kernel
theorem d_Pl_endBentTo_32 : decode b_Pl_endBentTo 32 = .ok (.if_icmp .ne 5, 3) := by decide +kernel
theorem d_Pl_endBentTo_35 : decode b_Pl_endBentTo 35 = .ok (.iload_n 3, 1) := by decide +kernel
theorem d_Pl_endBentTo_36 : decode b_Pl_endBentTo 36 = .ok (.ireturn, 1) := by decide +kernel
theorem d_Pl_endBentTo_37 : decode b_Pl_endBentTo 37 = .ok (.iinc 3 1, 3) := by decide +kernel
theorem d_Pl_endBentTo_40 : decode b_Pl_endBentTo 40 = .ok (.goto (-36), 3) := by decide +kernel
theorem d_Pl_endBentTo_43 : decode b_Pl_endBentTo 43 = .ok (.iconst (-1), 1) := by decide +kernel
theorem d_Pl_endBentTo_44 : decode b_Pl_endBentTo 44 = .ok (.ireturn, 1) := by decide +kernel
theorem d_Pl_endForBend_0 : decode b_Pl_endForBend 0 = .ok (.iconst 2, 1) := by decide +kernel
theorem d_Pl_endForBend_1 : decode b_Pl_endForBend 1 = .ok (.iload_n 1, 1) := by decide +kernel
theorem d_Pl_endForBend_2 : decode b_Pl_endForBend 2 = .ok (.imul, 1) := by decide +kernel
theorem d_Pl_endForBend_3 : decode b_Pl_endForBend 3 = .ok (.istore_n 2, 1) := by decide +kernel
theorem d_Pl_endForBend_4 : decode b_Pl_endForBend 4 = .ok (.iload_n 2, 1) := by decide +kernel
theorem d_Pl_endForBend_5 : decode b_Pl_endForBend 5 = .ok (.iconst 2, 1) := by decide +kernel
theorem d_Pl_endForBend_6 : decode b_Pl_endForBend 6 = .ok (.iload_n 1, 1) := by decide +kernel
theorem d_Pl_endForBend_7 : decode b_Pl_endForBend 7 = .ok (.imul, 1) := by decide +kernel
theorem d_Pl_endForBend_8 : decode b_Pl_endForBend 8 = .ok (.iconst 1, 1) := by decide +kernel
theorem d_Pl_endForBend_9 : decode b_Pl_endForBend 9 = .ok (.iadd, 1) := by decide +kernel
theorem d_Pl_endForBend_10 : decode b_Pl_endForBend 10 = .ok (.if_icmp .gt 31, 3) := by decide +kernel
theorem d_Pl_endForBend_13 : decode b_Pl_endForBend 13 = .ok (.aload_n 0, 1) := by decide +kernel
theorem d_Pl_endForBend_14 : decode b_Pl_endForBend 14 = .ok (.getfield 39, 3) := by decide +kernel
theorem d_Pl_endForBend_17 : decode b_Pl_endForBend 17 = .ok (.iload_n 2, 1) := by decide +kernel
theorem d_Pl_endForBend_18 : decode b_Pl_endForBend 18 = .ok (.iaload, 1) := by decide +kernel
theorem d_Pl_endForBend_19 : decode b_Pl_endForBend 19 = .ok (.iconst (-1), 1) := by decide +kernel
theorem d_Pl_endForBend_20 : decode b_Pl_endForBend 20 = .ok (.if_icmp .ne 15, 3) := by decide +kernel
theorem d_Pl_endForBend_23 : decode b_Pl_endForBend 23 = .ok (.aload_n 0, 1) := by decide +kernel
theorem d_Pl_endForBend_24 : decode b_Pl_endForBend 24 = .ok (.getfield 45, 3) := by decide +kernel
theorem d_Pl_endForBend_27 : decode b_Pl_endForBend 27 = .ok (.iload_n 2, 1) := by decide +kernel
theorem d_Pl_endForBend_28 : decode b_Pl_endForBend 28 = .ok (.iaload, 1) := by decide +kernel
theorem d_Pl_endForBend_29 : decode b_Pl_endForBend 29 = .ok (.iconst (-1), 1) := by decide +kernel
theorem d_Pl_endForBend_30 : decode b_Pl_endForBend 30 = .ok (.if_icmp .ne 5, 3) := by decide +kernel
theorem d_Pl_endForBend_33 : decode b_Pl_endForBend 33 = .ok (.iload_n 2, 1) := by decide +kernel
theorem d_Pl_endForBend_34 : decode b_Pl_endForBend 34 = .ok (.ireturn, 1) := by decide +kernel
theorem d_Pl_endForBend_35 : decode b_Pl_endForBend 35 = .ok (.iinc 2 1, 3) := by decide +kernel
theorem d_Pl_endForBend_38 : decode b_Pl_endForBend 38 = .ok (.goto (-34), 3) := by decide +kernel
theorem d_Pl_endForBend_41 : decode b_Pl_endForBend 41 = .ok (.iconst (-1), 1) := by decide +kernel
theorem d_Pl_endForBend_42 : decode b_Pl_endForBend 42 = .ok (.ireturn, 1) := by decide +kernel
theorem d_Pl_putBendIn_0 : decode b_Pl_putBendIn 0 = .ok (.aload_n 0, 1) := by decide +kernel
theorem d_Pl_putBendIn_1 : decode b_Pl_putBendIn 1 = .ok (.getfield 45, 3) := by decide +kernel
theorem d_Pl_putBendIn_4 : decode b_Pl_putBendIn 4 = .ok (.iload_n 1, 1) := by decide +kernel
theorem d_Pl_putBendIn_5 : decode b_Pl_putBendIn 5 = .ok (.iload_n 2, 1) := by decide +kernel
theorem d_Pl_putBendIn_6 : decode b_Pl_putBendIn 6 = .ok (.iastore, 1) := by decide +kernel
theorem d_Pl_putBendIn_7 : decode b_Pl_putBendIn 7 = .ok (.aload_n 0, 1) := by decide +kernel
theorem d_Pl_putBendIn_8 : decode b_Pl_putBendIn 8 = .ok (.getfield 45, 3) := by decide +kernel
theorem d_Pl_putBendIn_11 : decode b_Pl_putBendIn 11 = .ok (.iload_n 2, 1) := by decide +kernel
theorem d_Pl_putBendIn_12 : decode b_Pl_putBendIn 12 = .ok (.iload_n 1, 1) := by decide +kernel
theorem d_Pl_putBendIn_13 : decode b_Pl_putBendIn 13 = .ok (.iastore, 1) := by decide +kernel
theorem d_Pl_putBendIn_14 : decode b_Pl_putBendIn 14 = .ok (.return_, 1) := by decide +kernel
theorem d_Pl_takeBendOut_0 : decode b_Pl_takeBendOut 0 = .ok (.aload_n 0, 1) := by decide +kernel
theorem d_Pl_takeBendOut_1 : decode b_Pl_takeBendOut 1 = .ok (.getfield 45, 3) := by decide +kernel
theorem d_Pl_takeBendOut_4 : decode b_Pl_takeBendOut 4 = .ok (.iload_n 1, 1) := by decide +kernel
theorem d_Pl_takeBendOut_5 : decode b_Pl_takeBendOut 5 = .ok (.iaload, 1) := by decide +kernel
theorem d_Pl_takeBendOut_6 : decode b_Pl_takeBendOut 6 = .ok (.istore_n 2, 1) := by decide +kernel
theorem d_Pl_takeBendOut_7 : decode b_Pl_takeBendOut 7 = .ok (.aload_n 0, 1) := by decide +kernel
theorem d_Pl_takeBendOut_8 : decode b_Pl_takeBendOut 8 = .ok (.getfield 45, 3) := by decide +kernel
theorem d_Pl_takeBendOut_11 : decode b_Pl_takeBendOut 11 = .ok (.iload_n 1, 1) := by decide +kernel
theorem d_Pl_takeBendOut_12 : decode b_Pl_takeBendOut 12 = .ok (.iconst (-1), 1) := by decide +kernel
theorem d_Pl_takeBendOut_13 : decode b_Pl_takeBendOut 13 = .ok (.iastore, 1) := by decide +kernel
theorem d_Pl_takeBendOut_14 : decode b_Pl_takeBendOut 14 = .ok (.iload_n 2, 1) := by decide +kernel
theorem d_Pl_takeBendOut_15 : decode b_Pl_takeBendOut 15 = .ok (.i2l, 1) := by decide +kernel
theorem d_Pl_takeBendOut_16 : decode b_Pl_takeBendOut 16 = .ok (.lconst 0, 1) := by decide +kernel
theorem d_Pl_takeBendOut_17 : decode b_Pl_takeBendOut 17 = .ok (.ldc2_w 94, 3) := by decide +kernel
theorem d_Pl_takeBendOut_20 : decode b_Pl_takeBendOut 20 = .ok (.invokestatic 71, 3) := by decide +kernel
theorem d_Pl_takeBendOut_23 : decode b_Pl_takeBendOut 23 = .ok (.ifCond .eq 10, 3) := by decide +kernel
theorem d_Pl_takeBendOut_26 : decode b_Pl_takeBendOut 26 = .ok (.aload_n 0, 1) := by decide +kernel
theorem d_Pl_takeBendOut_27 : decode b_Pl_takeBendOut 27 = .ok (.getfield 45, 3) := by decide +kernel
theorem d_Pl_takeBendOut_30 : decode b_Pl_takeBendOut 30 = .ok (.iload_n 2, 1) := by decide +kernel
theorem d_Pl_takeBendOut_31 : decode b_Pl_takeBendOut 31 = .ok (.iconst (-1), 1) := by decide +kernel
theorem d_Pl_takeBendOut_32 : decode b_Pl_takeBendOut 32 = .ok (.iastore, 1) := by decide +kernel
theorem d_Pl_takeBendOut_33 : decode b_Pl_takeBendOut 33 = .ok (.return_, 1) := by decide +kernel
theorem d_Pl_isPair_0 : decode b_Pl_isPair 0 = .ok (.iload_n 0, 1) := by decide +kernel
theorem d_Pl_isPair_1 : decode b_Pl_isPair 1 = .ok (.iload_n 2, 1) := by decide +kernel
theorem d_Pl_isPair_2 : decode b_Pl_isPair 2 = .ok (.if_icmp .ne 8, 3) := by decide +kernel
theorem d_Pl_isPair_5 : decode b_Pl_isPair 5 = .ok (.iload_n 1, 1) := by decide +kernel
theorem d_Pl_isPair_6 : decode b_Pl_isPair 6 = .ok (.iload_n 3, 1) := by decide +kernel
theorem d_Pl_isPair_7 : decode b_Pl_isPair 7 = .ok (.if_icmp .eq 13, 3) := by decide +kernel
theorem d_Pl_isPair_10 : decode b_Pl_isPair 10 = .ok (.iload_n 0, 1) := by decide +kernel
theorem d_Pl_isPair_11 : decode b_Pl_isPair 11 = .ok (.iload_n 3, 1) := by decide +kernel
theorem d_Pl_isPair_12 : decode b_Pl_isPair 12 = .ok (.if_icmp .ne 12, 3) := by decide +kernel
theorem d_Pl_isPair_15 : decode b_Pl_isPair 15 = .ok (.iload_n 1, 1) := by decide +kernel
theorem d_Pl_isPair_16 : decode b_Pl_isPair 16 = .ok (.iload_n 2, 1) := by decide +kernel
theorem d_Pl_isPair_17 : decode b_Pl_isPair 17 = .ok (.if_icmp .ne 7, 3) := by decide +kernel
theorem d_Pl_isPair_20 : decode b_Pl_isPair 20 = .ok (.iconst 1, 1) := by decide +kernel
theorem d_Pl_isPair_21 : decode b_Pl_isPair 21 = .ok (.goto 4, 3) := by decide +kernel
theorem d_Pl_isPair_24 : decode b_Pl_isPair 24 = .ok (.iconst 0, 1) := by decide +kernel
theorem d_Pl_isPair_25 : decode b_Pl_isPair 25 = .ok (.ireturn, 1) := by decide +kernel
theorem d_Pl_passes_0 : decode b_Pl_passes 0 = .ok (.iload_n 2, 1) := by decide +kernel
theorem d_Pl_passes_1 : decode b_Pl_passes 1 = .ok (.iload_n 3, 1) := by decide +kernel
theorem d_Pl_passes_2 : decode b_Pl_passes 2 = .ok (.if_icmp .ne 5, 3) := by decide +kernel
theorem d_Pl_passes_5 : decode b_Pl_passes 5 = .ok (.iconst 0, 1) := by decide +kernel
theorem d_Pl_passes_6 : decode b_Pl_passes 6 = .ok (.ireturn, 1) := by decide +kernel
theorem d_Pl_passes_7 : decode b_Pl_passes 7 = .ok (.aload_n 0, 1) := by decide +kernel
theorem d_Pl_passes_8 : decode b_Pl_passes 8 = .ok (.getfield 15, 3) := by decide +kernel
theorem d_Pl_passes_11 : decode b_Pl_passes 11 = .ok (.iload_n 1, 1) := by decide +kernel
theorem d_Pl_passes_12 : decode b_Pl_passes 12 = .ok (.iaload, 1) := by decide +kernel
theorem d_Pl_passes_13 : decode b_Pl_passes 13 = .ok (.istore 4, 2) := by decide +kernel
theorem d_Pl_passes_15 : decode b_Pl_passes 15 = .ok (.aload_n 0, 1) := by decide +kernel
theorem d_Pl_passes_16 : decode b_Pl_passes 16 = .ok (.getfield 9, 3) := by decide +kernel
theorem d_Pl_passes_19 : decode b_Pl_passes 19 = .ok (.iload_n 1, 1) := by decide +kernel
theorem d_Pl_passes_20 : decode b_Pl_passes 20 = .ok (.iaload, 1) := by decide +kernel
theorem d_Pl_passes_21 : decode b_Pl_passes 21 = .ok (.tableswitch 294 0 9 #[55, 67, 104, 284, 163, 294, 200, 257, 268, 284], 55) := by decide +kernel
theorem d_Pl_passes_76 : decode b_Pl_passes 76 = .ok (.iload 4, 2) := by decide +kernel
theorem d_Pl_passes_78 : decode b_Pl_passes 78 = .ok (.iconst 1, 1) := by decide +kernel
theorem d_Pl_passes_79 : decode b_Pl_passes 79 = .ok (.if_icmp .ne 7, 3) := by decide +kernel
theorem d_Pl_passes_82 : decode b_Pl_passes 82 = .ok (.iconst 1, 1) := by decide +kernel
theorem d_Pl_passes_83 : decode b_Pl_passes 83 = .ok (.goto 4, 3) := by decide +kernel
theorem d_Pl_passes_86 : decode b_Pl_passes 86 = .ok (.iconst 0, 1) := by decide +kernel
theorem d_Pl_passes_87 : decode b_Pl_passes 87 = .ok (.ireturn, 1) := by decide +kernel
theorem d_Pl_passes_88 : decode b_Pl_passes 88 = .ok (.iload 4, 2) := by decide +kernel
theorem d_Pl_passes_90 : decode b_Pl_passes 90 = .ok (.ifCond .ne 13, 3) := by decide +kernel
theorem d_Pl_passes_93 : decode b_Pl_passes 93 = .ok (.iload_n 2, 1) := by decide +kernel
theorem d_Pl_passes_94 : decode b_Pl_passes 94 = .ok (.iload_n 3, 1) := by decide +kernel
theorem d_Pl_passes_95 : decode b_Pl_passes 95 = .ok (.iconst 0, 1) := by decide +kernel
theorem d_Pl_passes_96 : decode b_Pl_passes 96 = .ok (.iconst 1, 1) := by decide +kernel
theorem d_Pl_passes_97 : decode b_Pl_passes 97 = .ok (.invokestatic 96, 3) := by decide +kernel
theorem d_Pl_passes_100 : decode b_Pl_passes 100 = .ok (.ifCond .ne 19, 3) := by decide +kernel
theorem d_Pl_passes_103 : decode b_Pl_passes 103 = .ok (.iload 4, 2) := by decide +kernel
theorem d_Pl_passes_105 : decode b_Pl_passes 105 = .ok (.iconst 1, 1) := by decide +kernel
theorem d_Pl_passes_106 : decode b_Pl_passes 106 = .ok (.if_icmp .ne 17, 3) := by decide +kernel
theorem d_Pl_passes_109 : decode b_Pl_passes 109 = .ok (.iload_n 2, 1) := by decide +kernel
theorem d_Pl_passes_110 : decode b_Pl_passes 110 = .ok (.iload_n 3, 1) := by decide +kernel
theorem d_Pl_passes_111 : decode b_Pl_passes 111 = .ok (.iconst 0, 1) := by decide +kernel
theorem d_Pl_passes_112 : decode b_Pl_passes 112 = .ok (.iconst 2, 1) := by decide +kernel
theorem d_Pl_passes_113 : decode b_Pl_passes 113 = .ok (.invokestatic 96, 3) := by decide +kernel
theorem d_Pl_passes_116 : decode b_Pl_passes 116 = .ok (.ifCond .eq 7, 3) := by decide +kernel
theorem d_Pl_passes_119 : decode b_Pl_passes 119 = .ok (.iconst 1, 1) := by decide +kernel
theorem d_Pl_passes_120 : decode b_Pl_passes 120 = .ok (.goto 4, 3) := by decide +kernel
theorem d_Pl_passes_123 : decode b_Pl_passes 123 = .ok (.iconst 0, 1) := by decide +kernel
theorem d_Pl_passes_124 : decode b_Pl_passes 124 = .ok (.ireturn, 1) := by decide +kernel
theorem d_Pl_passes_125 : decode b_Pl_passes 125 = .ok (.iload 4, 2) := by decide +kernel
theorem d_Pl_passes_127 : decode b_Pl_passes 127 = .ok (.ifCond .eq 51, 3) := by decide +kernel
theorem d_Pl_passes_130 : decode b_Pl_passes 130 = .ok (.iload 4, 2) := by decide +kernel
theorem d_Pl_passes_132 : decode b_Pl_passes 132 = .ok (.iconst 1, 1) := by decide +kernel
theorem d_Pl_passes_133 : decode b_Pl_passes 133 = .ok (.if_icmp .ne 13, 3) := by decide +kernel
theorem d_Pl_passes_136 : decode b_Pl_passes 136 = .ok (.iload_n 2, 1) := by decide +kernel
theorem d_Pl_passes_137 : decode b_Pl_passes 137 = .ok (.iload_n 3, 1) := by decide +kernel
theorem d_Pl_passes_138 : decode b_Pl_passes 138 = .ok (.iconst 0, 1) := by decide +kernel
theorem d_Pl_passes_139 : decode b_Pl_passes 139 = .ok (.iconst 1, 1) := by decide +kernel
theorem d_Pl_passes_140 : decode b_Pl_passes 140 = .ok (.invokestatic 96, 3) := by decide +kernel
theorem d_Pl_passes_143 : decode b_Pl_passes 143 = .ok (.ifCond .ne 35, 3) := by decide +kernel
theorem d_Pl_passes_146 : decode b_Pl_passes 146 = .ok (.iload 4, 2) := by decide +kernel
theorem d_Pl_passes_148 : decode b_Pl_passes 148 = .ok (.iconst 2, 1) := by decide +kernel
theorem d_Pl_passes_149 : decode b_Pl_passes 149 = .ok (.if_icmp .ne 13, 3) := by decide +kernel
theorem d_Pl_passes_152 : decode b_Pl_passes 152 = .ok (.iload_n 2, 1) := by decide +kernel
theorem d_Pl_passes_153 : decode b_Pl_passes 153 = .ok (.iload_n 3, 1) := by decide +kernel
theorem d_Pl_passes_154 : decode b_Pl_passes 154 = .ok (.iconst 0, 1) := by decide +kernel
theorem d_Pl_passes_155 : decode b_Pl_passes 155 = .ok (.iconst 2, 1) := by decide +kernel
theorem d_Pl_passes_156 : decode b_Pl_passes 156 = .ok (.invokestatic 96, 3) := by decide +kernel
theorem d_Pl_passes_159 : decode b_Pl_passes 159 = .ok (.ifCond .ne 19, 3) := by decide +kernel
theorem d_Pl_passes_162 : decode b_Pl_passes 162 = .ok (.iload 4, 2) := by decide +kernel
theorem d_Pl_passes_164 : decode b_Pl_passes 164 = .ok (.iconst 3, 1) := by decide +kernel
theorem d_Pl_passes_165 : decode b_Pl_passes 165 = .ok (.if_icmp .ne 17, 3) := by decide +kernel
theorem d_Pl_passes_168 : decode b_Pl_passes 168 = .ok (.iload_n 2, 1) := by decide +kernel
theorem d_Pl_passes_169 : decode b_Pl_passes 169 = .ok (.iload_n 3, 1) := by decide +kernel
theorem d_Pl_passes_170 : decode b_Pl_passes 170 = .ok (.iconst 1, 1) := by decide +kernel
theorem d_Pl_passes_171 : decode b_Pl_passes 171 = .ok (.iconst 2, 1) := by decide +kernel
theorem d_Pl_passes_172 : decode b_Pl_passes 172 = .ok (.invokestatic 96, 3) := by decide +kernel
theorem d_Pl_passes_175 : decode b_Pl_passes 175 = .ok (.ifCond .eq 7, 3) := by decide +kernel
theorem d_Pl_passes_178 : decode b_Pl_passes 178 = .ok (.iconst 1, 1) := by decide +kernel
theorem d_Pl_passes_179 : decode b_Pl_passes 179 = .ok (.goto 4, 3) := by decide +kernel
theorem d_Pl_passes_182 : decode b_Pl_passes 182 = .ok (.iconst 0, 1) := by decide +kernel
theorem d_Pl_passes_183 : decode b_Pl_passes 183 = .ok (.ireturn, 1) := by decide +kernel
theorem d_Pl_passes_184 : decode b_Pl_passes 184 = .ok (.iload 4, 2) := by decide +kernel
theorem d_Pl_passes_186 : decode b_Pl_passes 186 = .ok (.iconst 1, 1) := by decide +kernel
theorem d_Pl_passes_187 : decode b_Pl_passes 187 = .ok (.if_icmp .eq 28, 3) := by decide +kernel
theorem d_Pl_passes_190 : decode b_Pl_passes 190 = .ok (.iload 4, 2) := by decide +kernel
theorem d_Pl_passes_192 : decode b_Pl_passes 192 = .ok (.ifCond .ne 27, 3) := by decide +kernel
theorem d_Pl_passes_195 : decode b_Pl_passes 195 = .ok (.iload_n 2, 1) := by decide +kernel
theorem d_Pl_passes_196 : decode b_Pl_passes 196 = .ok (.iload_n 3, 1) := by decide +kernel
theorem d_Pl_passes_197 : decode b_Pl_passes 197 = .ok (.iconst 0, 1) := by decide +kernel
theorem d_Pl_passes_198 : decode b_Pl_passes 198 = .ok (.iconst 1, 1) := by decide +kernel
theorem d_Pl_passes_199 : decode b_Pl_passes 199 = .ok (.invokestatic 96, 3) := by decide +kernel
theorem d_Pl_passes_202 : decode b_Pl_passes 202 = .ok (.ifCond .ne 13, 3) := by decide +kernel
theorem d_Pl_passes_205 : decode b_Pl_passes 205 = .ok (.iload_n 2, 1) := by decide +kernel
theorem d_Pl_passes_206 : decode b_Pl_passes 206 = .ok (.iload_n 3, 1) := by decide +kernel
theorem d_Pl_passes_207 : decode b_Pl_passes 207 = .ok (.iconst 2, 1) := by decide +kernel
theorem d_Pl_passes_208 : decode b_Pl_passes 208 = .ok (.iconst 3, 1) := by decide +kernel
theorem d_Pl_passes_209 : decode b_Pl_passes 209 = .ok (.invokestatic 96, 3) := by decide +kernel
theorem d_Pl_passes_212 : decode b_Pl_passes 212 = .ok (.ifCond .eq 7, 3) := by decide +kernel
theorem d_Pl_passes_215 : decode b_Pl_passes 215 = .ok (.iconst 1, 1) := by decide +kernel
theorem d_Pl_passes_216 : decode b_Pl_passes 216 = .ok (.goto 4, 3) := by decide +kernel
theorem d_Pl_passes_219 : decode b_Pl_passes 219 = .ok (.iconst 0, 1) := by decide +kernel
theorem d_Pl_passes_220 : decode b_Pl_passes 220 = .ok (.ireturn, 1) := by decide +kernel
theorem d_Pl_passes_221 : decode b_Pl_passes 221 = .ok (.iload 4, 2) := by decide +kernel
theorem d_Pl_passes_223 : decode b_Pl_passes 223 = .ok (.ifCond .ne 23, 3) := by decide +kernel
theorem d_Pl_passes_226 : decode b_Pl_passes 226 = .ok (.iload_n 2, 1) := by decide +kernel
theorem d_Pl_passes_227 : decode b_Pl_passes 227 = .ok (.iload_n 3, 1) := by decide +kernel
theorem d_Pl_passes_228 : decode b_Pl_passes 228 = .ok (.iconst 0, 1) := by decide +kernel
theorem d_Pl_passes_229 : decode b_Pl_passes 229 = .ok (.iconst 1, 1) := by decide +kernel
theorem d_Pl_passes_230 : decode b_Pl_passes 230 = .ok (.invokestatic 96, 3) := by decide +kernel
theorem d_Pl_passes_233 : decode b_Pl_passes 233 = .ok (.ifCond .ne 39, 3) := by decide +kernel
theorem d_Pl_passes_236 : decode b_Pl_passes 236 = .ok (.iload_n 2, 1) := by decide +kernel
theorem d_Pl_passes_237 : decode b_Pl_passes 237 = .ok (.iload_n 3, 1) := by decide +kernel
theorem d_Pl_passes_238 : decode b_Pl_passes 238 = .ok (.iconst 2, 1) := by decide +kernel
theorem d_Pl_passes_239 : decode b_Pl_passes 239 = .ok (.iconst 3, 1) := by decide +kernel
theorem d_Pl_passes_240 : decode b_Pl_passes 240 = .ok (.invokestatic 96, 3) := by decide +kernel
theorem d_Pl_passes_243 : decode b_Pl_passes 243 = .ok (.ifCond .ne 29, 3) := by decide +kernel
theorem d_Pl_passes_246 : decode b_Pl_passes 246 = .ok (.iload 4, 2) := by decide +kernel
theorem d_Pl_passes_248 : decode b_Pl_passes 248 = .ok (.iconst 1, 1) := by decide +kernel
theorem d_Pl_passes_249 : decode b_Pl_passes 249 = .ok (.if_icmp .ne 27, 3) := by decide +kernel
theorem d_Pl_passes_252 : decode b_Pl_passes 252 = .ok (.iload_n 2, 1) := by decide +kernel
theorem d_Pl_passes_253 : decode b_Pl_passes 253 = .ok (.iload_n 3, 1) := by decide +kernel
theorem d_Pl_passes_254 : decode b_Pl_passes 254 = .ok (.iconst 0, 1) := by decide +kernel
theorem d_Pl_passes_255 : decode b_Pl_passes 255 = .ok (.iconst 3, 1) := by decide +kernel
theorem d_Pl_passes_256 : decode b_Pl_passes 256 = .ok (.invokestatic 96, 3) := by decide +kernel
theorem d_Pl_passes_259 : decode b_Pl_passes 259 = .ok (.ifCond .ne 13, 3) := by decide +kernel
theorem d_Pl_passes_262 : decode b_Pl_passes 262 = .ok (.iload_n 2, 1) := by decide +kernel
theorem d_Pl_passes_263 : decode b_Pl_passes 263 = .ok (.iload_n 3, 1) := by decide +kernel
theorem d_Pl_passes_264 : decode b_Pl_passes 264 = .ok (.iconst 1, 1) := by decide +kernel
theorem d_Pl_passes_265 : decode b_Pl_passes 265 = .ok (.iconst 2, 1) := by decide +kernel
theorem d_Pl_passes_266 : decode b_Pl_passes 266 = .ok (.invokestatic 96, 3) := by decide +kernel
theorem d_Pl_passes_269 : decode b_Pl_passes 269 = .ok (.ifCond .eq 7, 3) := by decide +kernel
theorem d_Pl_passes_272 : decode b_Pl_passes 272 = .ok (.iconst 1, 1) := by decide +kernel
theorem d_Pl_passes_273 : decode b_Pl_passes 273 = .ok (.goto 4, 3) := by decide +kernel
theorem d_Pl_passes_276 : decode b_Pl_passes 276 = .ok (.iconst 0, 1) := by decide +kernel
theorem d_Pl_passes_277 : decode b_Pl_passes 277 = .ok (.ireturn, 1) := by decide +kernel
theorem d_Pl_passes_278 : decode b_Pl_passes 278 = .ok (.iload 4, 2) := by decide +kernel
theorem d_Pl_passes_280 : decode b_Pl_passes 280 = .ok (.ifCond .eq 7, 3) := by decide +kernel
theorem d_Pl_passes_283 : decode b_Pl_passes 283 = .ok (.iconst 1, 1) := by decide +kernel
theorem d_Pl_passes_284 : decode b_Pl_passes 284 = .ok (.goto 4, 3) := by decide +kernel
theorem d_Pl_passes_287 : decode b_Pl_passes 287 = .ok (.iconst 0, 1) := by decide +kernel
theorem d_Pl_passes_288 : decode b_Pl_passes 288 = .ok (.ireturn, 1) := by decide +kernel
theorem d_Pl_passes_289 : decode b_Pl_passes 289 = .ok (.iload 4, 2) := by decide +kernel
theorem d_Pl_passes_291 : decode b_Pl_passes 291 = .ok (.iconst 1, 1) := by decide +kernel
theorem d_Pl_passes_292 : decode b_Pl_passes 292 = .ok (.if_icmp .ne 11, 3) := by decide +kernel
theorem d_Pl_passes_295 : decode b_Pl_passes 295 = .ok (.iload_n 2, 1) := by decide +kernel
theorem d_Pl_passes_296 : decode b_Pl_passes 296 = .ok (.ifCond .ne 7, 3) := by decide +kernel
theorem d_Pl_passes_299 : decode b_Pl_passes 299 = .ok (.iconst 1, 1) := by decide +kernel
theorem d_Pl_passes_300 : decode b_Pl_passes 300 = .ok (.goto 4, 3) := by decide +kernel
theorem d_Pl_passes_303 : decode b_Pl_passes 303 = .ok (.iconst 0, 1) := by decide +kernel
theorem d_Pl_passes_304 : decode b_Pl_passes 304 = .ok (.ireturn, 1) := by decide +kernel
theorem d_Pl_passes_305 : decode b_Pl_passes 305 = .ok (.iload_n 2, 1) := by decide +kernel
theorem d_Pl_passes_306 : decode b_Pl_passes 306 = .ok (.ifCond .ne 7, 3) := by decide +kernel
theorem d_Pl_passes_309 : decode b_Pl_passes 309 = .ok (.iconst 1, 1) := by decide +kernel
theorem d_Pl_passes_310 : decode b_Pl_passes 310 = .ok (.goto 4, 3) := by decide +kernel
theorem d_Pl_passes_313 : decode b_Pl_passes 313 = .ok (.iconst 0, 1) := by decide +kernel
theorem d_Pl_passes_314 : decode b_Pl_passes 314 = .ok (.ireturn, 1) := by decide +kernel
theorem d_Pl_passes_315 : decode b_Pl_passes 315 = .ok (.iconst 0, 1) := by decide +kernel
theorem d_Pl_passes_316 : decode b_Pl_passes 316 = .ok (.ireturn, 1) := by decide +kernel
theorem d_Pl_roomIn_0 : decode b_Pl_roomIn 0 = .ok (.aload_n 0, 1) := by decide +kernel
theorem d_Pl_roomIn_1 : decode b_Pl_roomIn 1 = .ok (.getfield 21, 3) := by decide +kernel
theorem d_Pl_roomIn_4 : decode b_Pl_roomIn 4 = .ok (.iload_n 1, 1) := by decide +kernel
theorem d_Pl_roomIn_5 : decode b_Pl_roomIn 5 = .ok (.iaload, 1) := by decide +kernel
theorem d_Pl_roomIn_6 : decode b_Pl_roomIn 6 = .ok (.aload_n 0, 1) := by decide +kernel
theorem d_Pl_roomIn_7 : decode b_Pl_roomIn 7 = .ok (.getfield 24, 3) := by decide +kernel
theorem d_Pl_roomIn_10 : decode b_Pl_roomIn 10 = .ok (.iload_n 1, 1) := by decide +kernel
theorem d_Pl_roomIn_11 : decode b_Pl_roomIn 11 = .ok (.iaload, 1) := by decide +kernel
theorem d_Pl_roomIn_12 : decode b_Pl_roomIn 12 = .ok (.isub, 1) := by decide +kernel
theorem d_Pl_roomIn_13 : decode b_Pl_roomIn 13 = .ok (.ireturn, 1) := by decide +kernel
theorem d_Pl_pourIn_0 : decode b_Pl_pourIn 0 = .ok (.iload_n 2, 1) := by decide +kernel
theorem d_Pl_pourIn_1 : decode b_Pl_pourIn 1 = .ok (.ifCond .eq 7, 3) := by decide +kernel
theorem d_Pl_pourIn_4 : decode b_Pl_pourIn 4 = .ok (.iload_n 3, 1) := by decide +kernel
theorem d_Pl_pourIn_5 : decode b_Pl_pourIn 5 = .ok (.ifCond .ne 4, 3) := by decide +kernel
theorem d_Pl_pourIn_8 : decode b_Pl_pourIn 8 = .ok (.return_, 1) := by decide +kernel
theorem d_Pl_pourIn_9 : decode b_Pl_pourIn 9 = .ok (.aload_n 0, 1) := by decide +kernel
theorem d_Pl_pourIn_10 : decode b_Pl_pourIn 10 = .ok (.getfield 24, 3) := by decide +kernel
theorem d_Pl_pourIn_13 : decode b_Pl_pourIn 13 = .ok (.iload_n 1, 1) := by decide +kernel
theorem d_Pl_pourIn_14 : decode b_Pl_pourIn 14 = .ok (.iaload, 1) := by decide +kernel
theorem d_Pl_pourIn_15 : decode b_Pl_pourIn 15 = .ok (.ifCond .eq 13, 3) := by decide +kernel
theorem d_Pl_pourIn_18 : decode b_Pl_pourIn 18 = .ok (.aload_n 0, 1) := by decide +kernel
theorem d_Pl_pourIn_19 : decode b_Pl_pourIn 19 = .ok (.getfield 27, 3) := by decide +kernel
theorem d_Pl_pourIn_22 : decode b_Pl_pourIn 22 = .ok (.iload_n 1, 1) := by decide +kernel
theorem d_Pl_pourIn_23 : decode b_Pl_pourIn 23 = .ok (.iaload, 1) := by decide +kernel
theorem d_Pl_pourIn_24 : decode b_Pl_pourIn 24 = .ok (.iload_n 2, 1) := by decide +kernel
theorem d_Pl_pourIn_25 : decode b_Pl_pourIn 25 = .ok (.if_icmp .ne 7, 3) := by decide +kernel
theorem d_Pl_pourIn_28 : decode b_Pl_pourIn 28 = .ok (.iconst 1, 1) := by decide +kernel
theorem d_Pl_pourIn_29 : decode b_Pl_pourIn 29 = .ok (.goto 4, 3) := by decide +kernel
theorem d_Pl_pourIn_32 : decode b_Pl_pourIn 32 = .ok (.iconst 0, 1) := by decide +kernel
theorem d_Pl_pourIn_33 : decode b_Pl_pourIn 33 = .ok (.istore 4, 2) := by decide +kernel
theorem d_Pl_pourIn_35 : decode b_Pl_pourIn 35 = .ok (.aload_n 0, 1) := by decide +kernel
theorem d_Pl_pourIn_36 : decode b_Pl_pourIn 36 = .ok (.getfield 27, 3) := by decide +kernel
theorem d_Pl_pourIn_39 : decode b_Pl_pourIn 39 = .ok (.iload_n 1, 1) := by decide +kernel
theorem d_Pl_pourIn_40 : decode b_Pl_pourIn 40 = .ok (.iload 4, 2) := by decide +kernel
theorem d_Pl_pourIn_42 : decode b_Pl_pourIn 42 = .ok (.ifCond .eq 7, 3) := by decide +kernel
theorem d_Pl_pourIn_45 : decode b_Pl_pourIn 45 = .ok (.iload_n 2, 1) := by decide +kernel
theorem d_Pl_pourIn_46 : decode b_Pl_pourIn 46 = .ok (.goto 5, 3) := by decide +kernel
theorem d_Pl_pourIn_49 : decode b_Pl_pourIn 49 = .ok (.bipush 15, 2) := by decide +kernel
theorem d_Pl_pourIn_51 : decode b_Pl_pourIn 51 = .ok (.iastore, 1) := by decide +kernel
theorem d_Pl_pourIn_52 : decode b_Pl_pourIn 52 = .ok (.aload_n 0, 1) := by decide +kernel
theorem d_Pl_pourIn_53 : decode b_Pl_pourIn 53 = .ok (.getfield 24, 3) := by decide +kernel
theorem d_Pl_pourIn_56 : decode b_Pl_pourIn 56 = .ok (.iload_n 1, 1) := by decide +kernel
theorem d_Pl_pourIn_57 : decode b_Pl_pourIn 57 = .ok (.dup2, 1) := by decide +kernel
theorem d_Pl_pourIn_58 : decode b_Pl_pourIn 58 = .ok (.iaload, 1) := by decide +kernel
theorem d_Pl_pourIn_59 : decode b_Pl_pourIn 59 = .ok (.iload_n 3, 1) := by decide +kernel
theorem d_Pl_pourIn_60 : decode b_Pl_pourIn 60 = .ok (.iadd, 1) := by decide +kernel
theorem d_Pl_pourIn_61 : decode b_Pl_pourIn 61 = .ok (.iastore, 1) := by decide +kernel
theorem d_Pl_pourIn_62 : decode b_Pl_pourIn 62 = .ok (.return_, 1) := by decide +kernel
theorem d_Pl_drawOff_0 : decode b_Pl_drawOff 0 = .ok (.aload_n 0, 1) := by decide +kernel
theorem d_Pl_drawOff_1 : decode b_Pl_drawOff 1 = .ok (.getfield 24, 3) := by decide +kernel
theorem d_Pl_drawOff_4 : decode b_Pl_drawOff 4 = .ok (.iload_n 1, 1) := by decide +kernel
theorem d_Pl_drawOff_5 : decode b_Pl_drawOff 5 = .ok (.dup2, 1) := by decide +kernel
theorem d_Pl_drawOff_6 : decode b_Pl_drawOff 6 = .ok (.iaload, 1) := by decide +kernel
theorem d_Pl_drawOff_7 : decode b_Pl_drawOff 7 = .ok (.iload_n 2, 1) := by decide +kernel
theorem d_Pl_drawOff_8 : decode b_Pl_drawOff 8 = .ok (.isub, 1) := by decide +kernel
theorem d_Pl_drawOff_9 : decode b_Pl_drawOff 9 = .ok (.iastore, 1) := by decide +kernel
theorem d_Pl_drawOff_10 : decode b_Pl_drawOff 10 = .ok (.aload_n 0, 1) := by decide +kernel
theorem d_Pl_drawOff_11 : decode b_Pl_drawOff 11 = .ok (.getfield 24, 3) := by decide +kernel
theorem d_Pl_drawOff_14 : decode b_Pl_drawOff 14 = .ok (.iload_n 1, 1) := by decide +kernel
theorem d_Pl_drawOff_15 : decode b_Pl_drawOff 15 = .ok (.iaload, 1) := by decide +kernel
theorem d_Pl_drawOff_16 : decode b_Pl_drawOff 16 = .ok (.ifCond .ne 10, 3) := by decide +kernel
theorem d_Pl_drawOff_19 : decode b_Pl_drawOff 19 = .ok (.aload_n 0, 1) := by decide +kernel
theorem d_Pl_drawOff_20 : decode b_Pl_drawOff 20 = .ok (.getfield 27, 3) := by decide +kernel
theorem d_Pl_drawOff_23 : decode b_Pl_drawOff 23 = .ok (.iload_n 1, 1) := by decide +kernel
theorem d_Pl_drawOff_24 : decode b_Pl_drawOff 24 = .ok (.iconst 0, 1) := by decide +kernel
theorem d_Pl_drawOff_25 : decode b_Pl_drawOff 25 = .ok (.iastore, 1) := by decide +kernel
theorem d_Pl_drawOff_26 : decode b_Pl_drawOff 26 = .ok (.return_, 1) := by decide +kernel
theorem d_Pl_placeFrom_0 : decode b_Pl_placeFrom 0 = .ok (.iload_n 1, 1) := by decide +kernel
theorem d_Pl_placeFrom_1 : decode b_Pl_placeFrom 1 = .ok (.iconst 2, 1) := by decide +kernel
theorem d_Pl_placeFrom_2 : decode b_Pl_placeFrom 2 = .ok (.idiv, 1) := by decide +kernel
theorem d_Pl_placeFrom_3 : decode b_Pl_placeFrom 3 = .ok (.istore_n 3, 1) := by decide +kernel
theorem d_Pl_placeFrom_4 : decode b_Pl_placeFrom 4 = .ok (.iload_n 1, 1) := by decide +kernel
theorem d_Pl_placeFrom_5 : decode b_Pl_placeFrom 5 = .ok (.iconst 2, 1) := by decide +kernel
theorem d_Pl_placeFrom_6 : decode b_Pl_placeFrom 6 = .ok (.irem, 1) := by decide +kernel
theorem d_Pl_placeFrom_7 : decode b_Pl_placeFrom 7 = .ok (.ifCond .ne 7, 3) := by decide +kernel
theorem d_Pl_placeFrom_10 : decode b_Pl_placeFrom 10 = .ok (.iload_n 2, 1) := by decide +kernel
theorem d_Pl_placeFrom_11 : decode b_Pl_placeFrom 11 = .ok (.goto 13, 3) := by decide +kernel
theorem d_Pl_placeFrom_14 : decode b_Pl_placeFrom 14 = .ok (.aload_n 0, 1) := by decide +kernel
theorem d_Pl_placeFrom_15 : decode b_Pl_placeFrom 15 = .ok (.getfield 36, 3) := by decide +kernel
theorem d_Pl_placeFrom_18 : decode b_Pl_placeFrom 18 = .ok (.iload_n 3, 1) := by decide +kernel
theorem d_Pl_placeFrom_19 : decode b_Pl_placeFrom 19 = .ok (.iaload, 1) := by decide +kernel
theorem d_Pl_placeFrom_20 : decode b_Pl_placeFrom 20 = .ok (.iconst 1, 1) := by decide +kernel
theorem d_Pl_placeFrom_21 : decode b_Pl_placeFrom 21 = .ok (.isub, 1) := by decide +kernel
theorem d_Pl_placeFrom_22 : decode b_Pl_placeFrom 22 = .ok (.iload_n 2, 1) := by decide +kernel
theorem d_Pl_placeFrom_23 : decode b_Pl_placeFrom 23 = .ok (.isub, 1) := by decide +kernel
theorem d_Pl_placeFrom_24 : decode b_Pl_placeFrom 24 = .ok (.istore 4, 2) := by decide +kernel
theorem d_Pl_placeFrom_26 : decode b_Pl_placeFrom 26 = .ok (.iload_n 3, 1) := by decide +kernel
theorem d_Pl_placeFrom_27 : decode b_Pl_placeFrom 27 = .ok (.sipush 200, 3) := by decide +kernel
theorem d_Pl_placeFrom_30 : decode b_Pl_placeFrom 30 = .ok (.imul, 1) := by decide +kernel
theorem d_Pl_placeFrom_31 : decode b_Pl_placeFrom 31 = .ok (.iload 4, 2) := by decide +kernel
theorem d_Pl_placeFrom_33 : decode b_Pl_placeFrom 33 = .ok (.iadd, 1) := by decide +kernel
theorem d_Pl_placeFrom_34 : decode b_Pl_placeFrom 34 = .ok (.ireturn, 1) := by decide +kernel
theorem d_Pl_litreFrom_0 : decode b_Pl_litreFrom 0 = .ok (.aload_n 0, 1) := by decide +kernel
theorem d_Pl_litreFrom_1 : decode b_Pl_litreFrom 1 = .ok (.getfield 51, 3) := by decide +kernel
theorem d_Pl_litreFrom_4 : decode b_Pl_litreFrom 4 = .ok (.aload_n 0, 1) := by decide +kernel
theorem d_Pl_litreFrom_5 : decode b_Pl_litreFrom 5 = .ok (.iload_n 1, 1) := by decide +kernel
theorem d_Pl_litreFrom_6 : decode b_Pl_litreFrom 6 = .ok (.iload_n 2, 1) := by decide +kernel
theorem d_Pl_litreFrom_7 : decode b_Pl_litreFrom 7 = .ok (.invokevirtual 103, 3) := by decide +kernel
theorem d_Pl_litreFrom_10 : decode b_Pl_litreFrom 10 = .ok (.invokevirtual 106, 3) := by decide +kernel
theorem d_Pl_litreFrom_13 : decode b_Pl_litreFrom 13 = .ok (.ireturn, 1) := by decide +kernel
theorem d_Pl_setLitreFrom_0 : decode b_Pl_setLitreFrom 0 = .ok (.aload_n 0, 1) := by decide +kernel
theorem d_Pl_setLitreFrom_1 : decode b_Pl_setLitreFrom 1 = .ok (.getfield 51, 3) := by decide +kernel
theorem d_Pl_setLitreFrom_4 : decode b_Pl_setLitreFrom 4 = .ok (.aload_n 0, 1) := by decide +kernel
theorem d_Pl_setLitreFrom_5 : decode b_Pl_setLitreFrom 5 = .ok (.iload_n 1, 1) := by decide +kernel
theorem d_Pl_setLitreFrom_6 : decode b_Pl_setLitreFrom 6 = .ok (.iload_n 2, 1) := by decide +kernel
theorem d_Pl_setLitreFrom_7 : decode b_Pl_setLitreFrom 7 = .ok (.invokevirtual 103, 3) := by decide +kernel
theorem d_Pl_setLitreFrom_10 : decode b_Pl_setLitreFrom 10 = .ok (.iload_n 3, 1) := by decide +kernel
theorem d_Pl_setLitreFrom_11 : decode b_Pl_setLitreFrom 11 = .ok (.invokevirtual 110, 3) := by decide +kernel
theorem d_Pl_setLitreFrom_14 : decode b_Pl_setLitreFrom 14 = .ok (.return_, 1) := by decide +kernel
theorem d_Pl_liquidInPipe_0 : decode b_Pl_liquidInPipe 0 = .ok (.aload_n 0, 1) := by decide +kernel
theorem d_Pl_liquidInPipe_1 : decode b_Pl_liquidInPipe 1 = .ok (.iconst 2, 1) := by decide +kernel
theorem d_Pl_liquidInPipe_2 : decode b_Pl_liquidInPipe 2 = .ok (.iload_n 1, 1) := by decide +kernel
theorem d_Pl_liquidInPipe_3 : decode b_Pl_liquidInPipe 3 = .ok (.imul, 1) := by decide +kernel
theorem d_Pl_liquidInPipe_4 : decode b_Pl_liquidInPipe 4 = .ok (.iconst 0, 1) := by decide +kernel
theorem d_Pl_liquidInPipe_5 : decode b_Pl_liquidInPipe 5 = .ok (.invokevirtual 100, 3) := by decide +kernel
theorem d_Pl_liquidInPipe_8 : decode b_Pl_liquidInPipe 8 = .ok (.istore_n 2, 1) := by decide +kernel
theorem d_Pl_liquidInPipe_9 : decode b_Pl_liquidInPipe 9 = .ok (.iconst 1, 1) := by decide +kernel
theorem d_Pl_liquidInPipe_10 : decode b_Pl_liquidInPipe 10 = .ok (.istore_n 3, 1) := by decide +kernel
theorem d_Pl_liquidInPipe_11 : decode b_Pl_liquidInPipe 11 = .ok (.iload_n 3, 1) := by decide +kernel
theorem d_Pl_liquidInPipe_12 : decode b_Pl_liquidInPipe 12 = .ok (.aload_n 0, 1) := by decide +kernel
theorem d_Pl_liquidInPipe_13 : decode b_Pl_liquidInPipe 13 = .ok (.getfield 36, 3) := by decide +kernel
theorem d_Pl_liquidInPipe_16 : decode b_Pl_liquidInPipe 16 = .ok (.iload_n 1, 1) := by decide +kernel
theorem d_Pl_liquidInPipe_17 : decode b_Pl_liquidInPipe 17 = .ok (.iaload, 1) := by decide +kernel
theorem d_Pl_liquidInPipe_18 : decode b_Pl_liquidInPipe 18 = .ok (.if_icmp .ge 24, 3) := by decide +kernel
theorem d_Pl_liquidInPipe_21 : decode b_Pl_liquidInPipe 21 = .ok (.aload_n 0, 1) := by decide +kernel
theorem d_Pl_liquidInPipe_22 : decode b_Pl_liquidInPipe 22 = .ok (.iconst 2, 1) := by decide +kernel
theorem d_Pl_liquidInPipe_23 : decode b_Pl_liquidInPipe 23 = .ok (.iload_n 1, 1) := by decide +kernel
theorem d_Pl_liquidInPipe_24 : decode b_Pl_liquidInPipe 24 = .ok (.imul, 1) := by decide +kernel
theorem d_Pl_liquidInPipe_25 : decode b_Pl_liquidInPipe 25 = .ok (.iload_n 3, 1) := by decide +kernel
theorem d_Pl_liquidInPipe_26 : decode b_Pl_liquidInPipe 26 = .ok (.invokevirtual 100, 3) := by decide +kernel
theorem d_Pl_liquidInPipe_29 : decode b_Pl_liquidInPipe 29 = .ok (.iload_n 2, 1) := by decide +kernel
theorem d_Pl_liquidInPipe_30 : decode b_Pl_liquidInPipe 30 = .ok (.if_icmp .eq 6, 3) := by decide +kernel
theorem d_Pl_liquidInPipe_33 : decode b_Pl_liquidInPipe 33 = .ok (.bipush 15, 2) := by decide +kernel
theorem d_Pl_liquidInPipe_35 : decode b_Pl_liquidInPipe 35 = .ok (.ireturn, 1) := by decide +kernel
theorem d_Pl_liquidInPipe_36 : decode b_Pl_liquidInPipe 36 = .ok (.iinc 3 1, 3) := by decide +kernel
theorem d_Pl_liquidInPipe_39 : decode b_Pl_liquidInPipe 39 = .ok (.goto (-28), 3) := by decide +kernel
theorem d_Pl_liquidInPipe_42 : decode b_Pl_liquidInPipe 42 = .ok (.iload_n 2, 1) := by decide +kernel
theorem d_Pl_liquidInPipe_43 : decode b_Pl_liquidInPipe 43 = .ok (.ireturn, 1) := by decide +kernel
theorem d_Pl_clear_0 : decode b_Pl_clear 0 = .ok (.aload_n 0, 1) := by decide +kernel
theorem d_Pl_clear_1 : decode b_Pl_clear 1 = .ok (.iconst 0, 1) := by decide +kernel
theorem d_Pl_clear_2 : decode b_Pl_clear 2 = .ok (.putfield 55, 3) := by decide +kernel
theorem d_Pl_clear_5 : decode b_Pl_clear 5 = .ok (.aload_n 0, 1) := by decide +kernel
theorem d_Pl_clear_6 : decode b_Pl_clear 6 = .ok (.iconst 0, 1) := by decide +kernel
theorem d_Pl_clear_7 : decode b_Pl_clear 7 = .ok (.putfield 59, 3) := by decide +kernel
theorem d_Pl_clear_10 : decode b_Pl_clear 10 = .ok (.aload_n 0, 1) := by decide +kernel
theorem d_Pl_clear_11 : decode b_Pl_clear 11 = .ok (.getfield 51, 3) := by decide +kernel
theorem d_Pl_clear_14 : decode b_Pl_clear 14 = .ok (.invokevirtual 62, 3) := by decide +kernel
theorem d_Pl_clear_17 : decode b_Pl_clear 17 = .ok (.return_, 1) := by decide +kernel
theorem kw15_ff072c0 : (Cond.fieldLink R_Pl 45 "PlantGraph$Plant" "bendAtEnd" "[I" : Cond) ∈ tb := by decide +kernel
theorem kw15_1e13089 : (Cond.fieldLink R_Pl 39 "PlantGraph$Plant" "thingAtEnd" "[I" : Cond) ∈ tb := by decide +kernel
theorem kw15_0457dda : (Cond.constantLong R_Pl 94 119 : Cond) ∈ tb := by decide +kernel
theorem kw15_27e113c : (Cond.methodLinkNest R_Pl 71 y_PG_isBetween "PlantGraph" : Cond) ∈ tb := by decide +kernel
theorem kw15_dc3dcb6 : (Cond.initialized R_PG : Cond) ∈ tb := by decide +kernel
theorem kw15_12156fe : (Cond.code y_PG_isBetween b_PG_isBetween 6 (some .boolean) : Cond) ∈ tb := by decide +kernel
theorem kw15_674c2bf : (Cond.static y_PG_isBetween : Cond) ∈ tb := by decide +kernel
theorem kw15_08c6805 : (Cond.fieldLink R_Pl 15 "PlantGraph$Plant" "position" "[I" : Cond) ∈ tb := by decide +kernel
theorem kw15_c0ecaf9 : (Cond.fieldLink R_Pl 9 "PlantGraph$Plant" "kind" "[I" : Cond) ∈ tb := by decide +kernel
theorem kw15_5321c83 : (Cond.methodLink R_Pl 96 y_Pl_isPair : Cond) ∈ tb := by decide +kernel
theorem kw15_199fc92 : (Cond.static y_Pl_isPair : Cond) ∈ tb := by decide +kernel
theorem kw15_cd65af8 : (Cond.initialized R_Pl : Cond) ∈ tb := by decide +kernel
theorem kw15_4172ee0 : (Cond.code y_Pl_isPair b_Pl_isPair 4 (some .boolean) : Cond) ∈ tb := by decide +kernel
theorem kw15_41ec014 : (Cond.fieldLink R_Pl 21 "PlantGraph$Plant" "capacity" "[I" : Cond) ∈ tb := by decide +kernel
theorem kw15_c5682d8 : (Cond.fieldLink R_Pl 24 "PlantGraph$Plant" "amount" "[I" : Cond) ∈ tb := by decide +kernel
theorem kw15_5d95be5 : (Cond.fieldLink R_Pl 27 "PlantGraph$Plant" "liquid" "[I" : Cond) ∈ tb := by decide +kernel
theorem kw15_9698590 : (Cond.fieldLink R_Pl 36 "PlantGraph$Plant" "pipeLitres" "[I" : Cond) ∈ tb := by decide +kernel
theorem kw15_11754c3 : (Cond.fieldLink R_Pl 51 "PlantGraph$Plant" "inPipes" "LPlantGraph$Litres;" : Cond) ∈ tb := by decide +kernel
theorem kw15_ede422d : (Cond.methodLink R_Pl 103 y_Pl_placeFrom : Cond) ∈ tb := by decide +kernel
theorem kw15_5443c73 : (Cond.instanceMethod y_Pl_placeFrom : Cond) ∈ tb := by decide +kernel
theorem kw15_f65f302 : (Cond.selects R_Pl y_Pl_placeFrom y_Pl_placeFrom : Cond) ∈ tb := by decide +kernel
theorem kw15_30f0392 : (Cond.code y_Pl_placeFrom b_Pl_placeFrom 5 (some .int) : Cond) ∈ tb := by decide +kernel
theorem kw15_b43a487 : (Cond.methodLink R_Pl 106 y_Li_at : Cond) ∈ tb := by decide +kernel
theorem kw15_0830191 : (Cond.instanceMethod y_Li_at : Cond) ∈ tb := by decide +kernel
theorem kw15_530dcf1 : (Cond.selects R_Li y_Li_at y_Li_at : Cond) ∈ tb := by decide +kernel
theorem kw15_59924f3 : (Cond.initialized R_Li : Cond) ∈ tb := by decide +kernel
theorem kw15_f0d6064 : (Cond.code y_Li_at b_Li_at 2 (some .int) : Cond) ∈ tb := by decide +kernel
theorem kw15_99e8369 : (Cond.methodLink R_Pl 110 y_Li_set : Cond) ∈ tb := by decide +kernel
theorem kw15_6eae34d : (Cond.instanceMethod y_Li_set : Cond) ∈ tb := by decide +kernel
theorem kw15_c12498c : (Cond.selects R_Li y_Li_set y_Li_set : Cond) ∈ tb := by decide +kernel
theorem kw15_37ce619 : (Cond.code y_Li_set b_Li_set 5 none : Cond) ∈ tb := by decide +kernel
theorem kw15_cf2fd3e : (Cond.methodLink R_Pl 100 y_Pl_litreFrom : Cond) ∈ tb := by decide +kernel
theorem kw15_3994139 : (Cond.instanceMethod y_Pl_litreFrom : Cond) ∈ tb := by decide +kernel
theorem kw15_9488304 : (Cond.selects R_Pl y_Pl_litreFrom y_Pl_litreFrom : Cond) ∈ tb := by decide +kernel
theorem kw15_300ee4b : (Cond.code y_Pl_litreFrom b_Pl_litreFrom 3 (some .int) : Cond) ∈ tb := by decide +kernel
theorem kw15_8296991 : (Cond.fieldLink R_Pl 55 "PlantGraph$Plant" "things" "I" : Cond) ∈ tb := by decide +kernel
theorem kw15_92ca4a3 : (Cond.fieldLink R_Pl 59 "PlantGraph$Plant" "pipes" "I" : Cond) ∈ tb := by decide +kernel
theorem kw15_6c22746 : (Cond.methodLink R_Pl 62 y_Li_clear : Cond) ∈ tb := by decide +kernel
theorem kw15_59c865a : (Cond.instanceMethod y_Li_clear : Cond) ∈ tb := by decide +kernel
theorem kw15_871cdaf : (Cond.selects R_Li y_Li_clear y_Li_clear : Cond) ∈ tb := by decide +kernel
theorem kw15_fece976 : (Cond.code y_Li_clear b_Li_clear 1 none : Cond) ∈ tb := by decide +kernel
def wk_Pl_endBentTo_35_4 (P : Int32 → Prop) (x3_L4 : Int32) : Prop := P x3_L4
def wk_Pl_endBentTo_43_4 (P : Int32 → Prop) (x3_L4 : Int32) : Prop := P (-1)
def wl_Pl_endBentTo_4 (x1 : Int32) (f_t_bendAtEnd : (Nat → Int32)) (x2 : Int32) (K_35 : Int32 → Prop) (K_43 : Int32 → Prop) : Nat → Int32 → Prop
  | 0, _ => False
  | k_4 + 1, x3_L4 => ((((2 * x1) + 1) < x3_L4 → K_43 x3_L4) ∧ (¬ ((2 * x1) + 1) < x3_L4 → (vp_in x3_L4 120 ∧ (((f_t_bendAtEnd x3_L4.toNatClampNeg) = ((-1) : Int32) → wl_Pl_endBentTo_4 x1 f_t_bendAtEnd x2 K_35 K_43 k_4 (x3_L4 + 1)) ∧ (¬ (f_t_bendAtEnd x3_L4.toNatClampNeg) = ((-1) : Int32) → (vp_in x3_L4 120 ∧ ((¬ ((f_t_bendAtEnd x3_L4.toNatClampNeg) / 2) = x2 → wl_Pl_endBentTo_4 x1 f_t_bendAtEnd x2 K_35 K_43 k_4 (x3_L4 + 1)) ∧ (((f_t_bendAtEnd x3_L4.toNatClampNeg) / 2) = x2 → K_35 x3_L4))))))))
def wp_Pl_endBentTo (f_t_bendAtEnd : (Nat → Int32)) (x1 : Int32) (x2 : Int32) (P : Int32 → Prop) : Prop := (∃ n_4 : Nat, wl_Pl_endBentTo_4 x1 f_t_bendAtEnd x2 (wk_Pl_endBentTo_35_4 P) (wk_Pl_endBentTo_43_4 P) n_4 (2 * x1))
def w_Pl_endBentTo : List Cond := .code y_Pl_endBentTo b_Pl_endBentTo 4 (some .int) :: tb
abbrev rm_Pl_endBentTo : Room := { frames := 0, cells := 0, slots := 0, locals := 0 }
abbrev Q_Pl_endBentTo (dC : Nat → ClassId) (dI : Nat → Nat → Nat) (cI cL cB : ClassId) (q_t : Nat) (q_t_kind : Nat) (q_t_position : Nat) (q_t_told : Nat) (q_t_capacity : Nat) (q_t_amount : Nat) (q_t_liquid : Nat) (q_t_portsTaken : Nat) (q_t_endAtPort : Nat) (q_t_pipeLitres : Nat) (q_t_thingAtEnd : Nat) (q_t_portAtEnd : Nat) (q_t_bendAtEnd : Nat) (q_t_inPipes : Nat) (v_t_things : Int32) (v_t_pipes : Int32) (f_t_bendAtEnd : (Nat → Int32)) (x1 : Int32) (x2 : Int32) (P : Int32 → Prop) (A : Nat → Prop) : Array Value → State → Outcome → State → Prop := va_Qi (fun (r : Int32) (u : Unit) => P r) (fun u t => va_P (dC, dI) classes [(q_t, .inr (1, [.int v_t_things, .ref q_t_kind, .ref q_t_position, .ref q_t_told, .ref q_t_capacity, .ref q_t_amount, .ref q_t_liquid, .ref q_t_portsTaken, .ref q_t_endAtPort, .int v_t_pipes, .ref q_t_pipeLitres, .ref q_t_thingAtEnd, .ref q_t_portAtEnd, .ref q_t_bendAtEnd, .ref q_t_inPipes])), (q_t_bendAtEnd, .inl (cI, 120, .inl f_t_bendAtEnd))] t.heap ∧ va_K (dC, dI) classes [(cI, .int), (cL, .long), (cB, .byte)] t ∧ va_D A [(q_t, .inr (1, [.int v_t_things, .ref q_t_kind, .ref q_t_position, .ref q_t_told, .ref q_t_capacity, .ref q_t_amount, .ref q_t_liquid, .ref q_t_portsTaken, .ref q_t_endAtPort, .int v_t_pipes, .ref q_t_pipeLitres, .ref q_t_thingAtEnd, .ref q_t_portAtEnd, .ref q_t_bendAtEnd, .ref q_t_inPipes])), (q_t_bendAtEnd, .inl (cI, 120, .inl f_t_bendAtEnd))]) A
set_option maxHeartbeats 4000000 in
set_option maxRecDepth 100000 in
theorem c_Pl_endBentTo (l : Launch) (dC : Nat → ClassId) (dI : Nat → Nat → Nat) (cI cL cB : ClassId) (q_t : Nat) (q_t_kind : Nat) (q_t_position : Nat) (q_t_told : Nat) (q_t_capacity : Nat) (q_t_amount : Nat) (q_t_liquid : Nat) (q_t_portsTaken : Nat) (q_t_endAtPort : Nat) (q_t_pipeLitres : Nat) (q_t_thingAtEnd : Nat) (q_t_portAtEnd : Nat) (q_t_bendAtEnd : Nat) (q_t_inPipes : Nat) (sz : Nat) (v_t_things : Int32) (v_t_pipes : Int32) (f_t_bendAtEnd : (Nat → Int32)) (x1 : Int32) (x2 : Int32) (P : Int32 → Prop) (hw : wp_Pl_endBentTo f_t_bendAtEnd x1 x2 P) : Met l y_Pl_endBentTo w_Pl_endBentTo rm_Pl_endBentTo (va_Pc [.ref q_t, .int x1, .int x2] (fun U => U.heap.size = sz ∧ va_P (dC, dI) classes [(q_t, .inr (1, [.int v_t_things, .ref q_t_kind, .ref q_t_position, .ref q_t_told, .ref q_t_capacity, .ref q_t_amount, .ref q_t_liquid, .ref q_t_portsTaken, .ref q_t_endAtPort, .int v_t_pipes, .ref q_t_pipeLitres, .ref q_t_thingAtEnd, .ref q_t_portAtEnd, .ref q_t_bendAtEnd, .ref q_t_inPipes])), (q_t_bendAtEnd, .inl (cI, 120, .inl f_t_bendAtEnd))] U.heap ∧ va_K (dC, dI) classes [(cI, .int), (cL, .long), (cB, .byte)] U ∧ va_D (fun _ => True) [(q_t, .inr (1, [.int v_t_things, .ref q_t_kind, .ref q_t_position, .ref q_t_told, .ref q_t_capacity, .ref q_t_amount, .ref q_t_liquid, .ref q_t_portsTaken, .ref q_t_endAtPort, .int v_t_pipes, .ref q_t_pipeLitres, .ref q_t_thingAtEnd, .ref q_t_portAtEnd, .ref q_t_bendAtEnd, .ref q_t_inPipes])), (q_t_bendAtEnd, .inl (cI, 120, .inl f_t_bendAtEnd))])) (Q_Pl_endBentTo dC dI cI cL cB q_t q_t_kind q_t_position q_t_told q_t_capacity q_t_amount q_t_liquid q_t_portsTaken q_t_endAtPort q_t_pipeLitres q_t_thingAtEnd q_t_portAtEnd q_t_bendAtEnd q_t_inPipes v_t_things v_t_pipes f_t_bendAtEnd x1 x2 P (va_A [(q_t, .inr (1, [.int v_t_things, .ref q_t_kind, .ref q_t_position, .ref q_t_told, .ref q_t_capacity, .ref q_t_amount, .ref q_t_liquid, .ref q_t_portsTaken, .ref q_t_endAtPort, .int v_t_pipes, .ref q_t_pipeLitres, .ref q_t_thingAtEnd, .ref q_t_portAtEnd, .ref q_t_bendAtEnd, .ref q_t_inPipes])), (q_t_bendAtEnd, .inl (cI, 120, .inl f_t_bendAtEnd))] sz)) 0 0 (va_A [(q_t, .inr (1, [.int v_t_things, .ref q_t_kind, .ref q_t_position, .ref q_t_told, .ref q_t_capacity, .ref q_t_amount, .ref q_t_liquid, .ref q_t_portsTaken, .ref q_t_endAtPort, .int v_t_pipes, .ref q_t_pipeLitres, .ref q_t_thingAtEnd, .ref q_t_portAtEnd, .ref q_t_bendAtEnd, .ref q_t_inPipes])), (q_t_bendAtEnd, .inl (cI, 120, .inl f_t_bendAtEnd))] sz) := by
  refine Met.ofW (cc := b_Pl_endBentTo) (maxL := 4) (ret := (some .int)) (by decide) rfl ?_
  intro p e s m args below meth c s₁ B hml hv
  obtain ⟨ha, hsz, hP, hK, hD0⟩ := hv
  have hx := B.exec
  have hb := B.bytes
  have hr := B.returns
  have hts0 := atoms_spec (ws := w_Pl_endBentTo) B.pre
  have hts : ∀ w ∈ tb, w.before args s = true := fun w h => hts0 w (List.mem_cons_of_mem _ h)
  have hown : s.vm.findClass R_Pl = some m.cls := findClass_of_methodNamed B.named
  have hlocks := B.notSynchronized
  subst hsz
  have hD := hD0.self (sz := s.heap.size)
  generalize hAe : va_A [(q_t, .inr (1, [.int v_t_things, .ref q_t_kind, .ref q_t_position, .ref q_t_told, .ref q_t_capacity, .ref q_t_amount, .ref q_t_liquid, .ref q_t_portsTaken, .ref q_t_endAtPort, .int v_t_pipes, .ref q_t_pipeLitres, .ref q_t_thingAtEnd, .ref q_t_portAtEnd, .ref q_t_bendAtEnd, .ref q_t_inPipes])), (q_t_bendAtEnd, .inl (cI, 120, .inl f_t_bendAtEnd))] s.heap.size = A at hD ⊢
  have hA : ∀ q : Nat, s.heap.size ≤ q → A q := fun q h => by rw [← hAe]; exact Or.inr h
  have hS : va_S A s.heap s.heap [] := va_S.rf
  have hP : va_P (dC, dI) classes [(q_t, .inr (1, [.int v_t_things, .ref q_t_kind, .ref q_t_position, .ref q_t_told, .ref q_t_capacity, .ref q_t_amount, .ref q_t_liquid, .ref q_t_portsTaken, .ref q_t_endAtPort, .int v_t_pipes, .ref q_t_pipeLitres, .ref q_t_thingAtEnd, .ref q_t_portAtEnd, .ref q_t_bendAtEnd, .ref q_t_inPipes])), (q_t_bendAtEnd, .inl (cI, 120, .inl f_t_bendAtEnd))] s.heap := hP
  have hl := lv_entry [.ref q_t, .int x1, .int x2] (n := 4) (Nat.le_of_ble_eq_true rfl)
  have he9 : entryFrame m args 4 = F0 m 0 ((lg_sl [.ref q_t, .int x1, .int x2] ++ List.replicate (4 - (lg_sl [.ref q_t, .int x1, .int x2]).length) Slot.unset).toArray) [] := by rw [ha]; exact lg_entry_eq _ _ _
  rw [he9]
  clear he9
  generalize (lg_sl [.ref q_t, .int x1, .int x2] ++ List.replicate (4 - (lg_sl [.ref q_t, .int x1, .int x2]).length) Slot.unset).toArray = ls at hl ⊢
  have hl : lv_has ls 4 [(0, .ref q_t), (1, .int x1), (2, .int x2)] := hl
  unfold wp_Pl_endBentTo at hw
  refine lv_iconst (v := 2) hx hb d_Pl_endBentTo_0 (by decide) ?_
  refine lv_iload_n hx hb d_Pl_endBentTo_1 rfl (lv_at hl 1 rfl) ?_
  refine lv_imul hx hb d_Pl_endBentTo_2 ?_
  refine lv_istore_n (lv' := [(3, .int (2 * x1)), (0, .ref q_t), (1, .int x1), (2, .int x2)]) hx hb d_Pl_endBentTo_3 rfl hl (by decide) rfl (fun ls hl => ?_)
  obtain ⟨n_4, hw⟩ := hw
  have EX_35 : ∀ (x3_L4 : Int32) (H : Heap) (locs : List Loc) (ls : Array Slot), va_P (dC, dI) classes [(q_t, .inr (1, [.int v_t_things, .ref q_t_kind, .ref q_t_position, .ref q_t_told, .ref q_t_capacity, .ref q_t_amount, .ref q_t_liquid, .ref q_t_portsTaken, .ref q_t_endAtPort, .int v_t_pipes, .ref q_t_pipeLitres, .ref q_t_thingAtEnd, .ref q_t_portAtEnd, .ref q_t_bendAtEnd, .ref q_t_inPipes])), (q_t_bendAtEnd, .inl (cI, 120, .inl f_t_bendAtEnd))] H → va_D A [(q_t, .inr (1, [.int v_t_things, .ref q_t_kind, .ref q_t_position, .ref q_t_told, .ref q_t_capacity, .ref q_t_amount, .ref q_t_liquid, .ref q_t_portsTaken, .ref q_t_endAtPort, .int v_t_pipes, .ref q_t_pipeLitres, .ref q_t_thingAtEnd, .ref q_t_portAtEnd, .ref q_t_bendAtEnd, .ref q_t_inPipes])), (q_t_bendAtEnd, .inl (cI, 120, .inl f_t_bendAtEnd))] → va_S A s.heap H locs → lv_has ls 4 [(0, .ref q_t), (1, .int x1), (2, .int x2), (3, .int x3_L4)] → wk_Pl_endBentTo_35_4 P x3_L4 → W p l e (headSpec w_Pl_endBentTo rm_Pl_endBentTo).room s m args below meth c H locs 0 0 (MQ below (Q_Pl_endBentTo dC dI cI cL cB q_t q_t_kind q_t_position q_t_told q_t_capacity q_t_amount q_t_liquid q_t_portsTaken q_t_endAtPort q_t_pipeLitres q_t_thingAtEnd q_t_portAtEnd q_t_bendAtEnd q_t_inPipes v_t_things v_t_pipes f_t_bendAtEnd x1 x2 P A) args s 0 0 A) (F0 m 35 ls []) := by
    intro x3_L4 H locs ls hP hD hS hl hw
    unfold wk_Pl_endBentTo_35_4 at hw
    refine lv_iload_n hx hb d_Pl_endBentTo_35 rfl (lv_at hl 3 rfl) ?_
    exact W.iret (v := x3_L4) hx hb hr (fun t ht hW => ⟨⟨x3_L4, (), rfl, hw, by rw [ht]; exact hP, va_K.moved hW.alike hK, hD⟩, hS.F ht⟩) hS.2.2 d_Pl_endBentTo_36
  have EX_43 : ∀ (x3_L4 : Int32) (H : Heap) (locs : List Loc) (ls : Array Slot), va_P (dC, dI) classes [(q_t, .inr (1, [.int v_t_things, .ref q_t_kind, .ref q_t_position, .ref q_t_told, .ref q_t_capacity, .ref q_t_amount, .ref q_t_liquid, .ref q_t_portsTaken, .ref q_t_endAtPort, .int v_t_pipes, .ref q_t_pipeLitres, .ref q_t_thingAtEnd, .ref q_t_portAtEnd, .ref q_t_bendAtEnd, .ref q_t_inPipes])), (q_t_bendAtEnd, .inl (cI, 120, .inl f_t_bendAtEnd))] H → va_D A [(q_t, .inr (1, [.int v_t_things, .ref q_t_kind, .ref q_t_position, .ref q_t_told, .ref q_t_capacity, .ref q_t_amount, .ref q_t_liquid, .ref q_t_portsTaken, .ref q_t_endAtPort, .int v_t_pipes, .ref q_t_pipeLitres, .ref q_t_thingAtEnd, .ref q_t_portAtEnd, .ref q_t_bendAtEnd, .ref q_t_inPipes])), (q_t_bendAtEnd, .inl (cI, 120, .inl f_t_bendAtEnd))] → va_S A s.heap H locs → lv_has ls 4 [(0, .ref q_t), (1, .int x1), (2, .int x2), (3, .int x3_L4)] → wk_Pl_endBentTo_43_4 P x3_L4 → W p l e (headSpec w_Pl_endBentTo rm_Pl_endBentTo).room s m args below meth c H locs 0 0 (MQ below (Q_Pl_endBentTo dC dI cI cL cB q_t q_t_kind q_t_position q_t_told q_t_capacity q_t_amount q_t_liquid q_t_portsTaken q_t_endAtPort q_t_pipeLitres q_t_thingAtEnd q_t_portAtEnd q_t_bendAtEnd q_t_inPipes v_t_things v_t_pipes f_t_bendAtEnd x1 x2 P A) args s 0 0 A) (F0 m 43 ls []) := by
    intro x3_L4 H locs ls hP hD hS hl hw
    unfold wk_Pl_endBentTo_43_4 at hw
    refine lv_iconst (v := (-1)) hx hb d_Pl_endBentTo_43 (by decide) ?_
    exact W.iret (v := (-1)) hx hb hr (fun t ht hW => ⟨⟨(-1), (), rfl, hw, by rw [ht]; exact hP, va_K.moved hW.alike hK, hD⟩, hS.F ht⟩) hS.2.2 d_Pl_endBentTo_44
  have LP_4 : ∀ (k_4 : Nat) (x3_L4 : Int32) (H : Heap) (locs : List Loc) (ls : Array Slot), va_P (dC, dI) classes [(q_t, .inr (1, [.int v_t_things, .ref q_t_kind, .ref q_t_position, .ref q_t_told, .ref q_t_capacity, .ref q_t_amount, .ref q_t_liquid, .ref q_t_portsTaken, .ref q_t_endAtPort, .int v_t_pipes, .ref q_t_pipeLitres, .ref q_t_thingAtEnd, .ref q_t_portAtEnd, .ref q_t_bendAtEnd, .ref q_t_inPipes])), (q_t_bendAtEnd, .inl (cI, 120, .inl f_t_bendAtEnd))] H → va_D A [(q_t, .inr (1, [.int v_t_things, .ref q_t_kind, .ref q_t_position, .ref q_t_told, .ref q_t_capacity, .ref q_t_amount, .ref q_t_liquid, .ref q_t_portsTaken, .ref q_t_endAtPort, .int v_t_pipes, .ref q_t_pipeLitres, .ref q_t_thingAtEnd, .ref q_t_portAtEnd, .ref q_t_bendAtEnd, .ref q_t_inPipes])), (q_t_bendAtEnd, .inl (cI, 120, .inl f_t_bendAtEnd))] → va_S A s.heap H locs → lv_has ls 4 [(0, .ref q_t), (1, .int x1), (2, .int x2), (3, .int x3_L4)] → wl_Pl_endBentTo_4 x1 f_t_bendAtEnd x2 (wk_Pl_endBentTo_35_4 P) (wk_Pl_endBentTo_43_4 P) k_4 x3_L4 → W p l e (headSpec w_Pl_endBentTo rm_Pl_endBentTo).room s m args below meth c H locs 0 0 (MQ below (Q_Pl_endBentTo dC dI cI cL cB q_t q_t_kind q_t_position q_t_told q_t_capacity q_t_amount q_t_liquid q_t_portsTaken q_t_endAtPort q_t_pipeLitres q_t_thingAtEnd q_t_portAtEnd q_t_bendAtEnd q_t_inPipes v_t_things v_t_pipes f_t_bendAtEnd x1 x2 P A) args s 0 0 A) (F0 m 4 ls []) := by
    intro k_4
    induction k_4 with
    | zero => intro x3_L4 H locs ls hP hD hS hl hw; unfold wl_Pl_endBentTo_4 at hw; exact hw.elim
    | succ k_4 ih_4 =>
      intro x3_L4 H locs ls hP hD hS hl hw
      unfold wl_Pl_endBentTo_4 at hw
      refine lv_iload_n hx hb d_Pl_endBentTo_4 rfl (lv_at hl 3 rfl) ?_
      refine lv_iconst (v := 2) hx hb d_Pl_endBentTo_5 (by decide) ?_
      refine lv_iload_n hx hb d_Pl_endBentTo_6 rfl (lv_at hl 1 rfl) ?_
      refine lv_imul hx hb d_Pl_endBentTo_7 ?_
      refine lv_iconst (v := 1) hx hb d_Pl_endBentTo_8 (by decide) ?_
      refine lv_iadd hx hb d_Pl_endBentTo_9 ?_
      refine lv_icmp_gt (tgt := 43) hx hb d_Pl_endBentTo_10 (by decide) (fun c10 => ?_) (fun c10 => ?_)
      · replace hw := hw.1 c10
        exact EX_43 x3_L4 H _ _ hP hD hS (lv_sub hl [0, 1, 2, 3] rfl) hw
      · replace hw := hw.2 c10
        refine lv_aload_n hx hb d_Pl_endBentTo_13 rfl (lv_at hl 0 rfl) ?_
        refine va_get (D := (dC, dI)) (ci := 1) (v := .ref q_t_bendAtEnd) (C := R_Pl) (T := F_Pl) (N := 15) hx hb hts i_Pl hown hK hP 0 rfl rfl 13 (by decide) (hts (Cond.fieldLink R_Pl 45 "PlantGraph$Plant" "bendAtEnd" "[I") kw15_ff072c0) (fun _ h9 => h9) rfl d_Pl_endBentTo_14 ?_
        refine lv_iload_n hx hb d_Pl_endBentTo_17 rfl (lv_at hl 3 rfl) ?_
        refine va_iald hx hb hK hP 1 0 rfl rfl hw.1 d_Pl_endBentTo_18 ?_
        replace hw := hw.2
        refine lv_iconst (v := (-1)) hx hb d_Pl_endBentTo_19 (by decide) ?_
        refine lv_icmp_eq (tgt := 37) hx hb d_Pl_endBentTo_20 (by decide) (fun c20 => ?_) (fun c20 => ?_)
        · replace hw := hw.1 c20
          refine lv_iinc (v := (x3_L4 + 1)) (lv' := [(3, .int (x3_L4 + 1)), (0, .ref q_t), (1, .int x1), (2, .int x2)]) hx hb d_Pl_endBentTo_37 hl (k := 3) rfl rfl (by decide) rfl (fun ls hl => ?_)
          refine lv_goto (tgt := 4) hx hb d_Pl_endBentTo_40 (by decide) ?_
          exact ih_4 (x3_L4 + 1) H _ _ hP hD hS (lv_sub hl [1, 2, 3, 0] rfl) hw
        · replace hw := hw.2 c20
          refine lv_aload_n hx hb d_Pl_endBentTo_23 rfl (lv_at hl 0 rfl) ?_
          refine va_get (D := (dC, dI)) (ci := 1) (v := .ref q_t_bendAtEnd) (C := R_Pl) (T := F_Pl) (N := 15) hx hb hts i_Pl hown hK hP 0 rfl rfl 13 (by decide) (hts (Cond.fieldLink R_Pl 45 "PlantGraph$Plant" "bendAtEnd" "[I") kw15_ff072c0) (fun _ h9 => h9) rfl d_Pl_endBentTo_24 ?_
          refine lv_iload_n hx hb d_Pl_endBentTo_27 rfl (lv_at hl 3 rfl) ?_
          refine va_iald hx hb hK hP 1 0 rfl rfl hw.1 d_Pl_endBentTo_28 ?_
          replace hw := hw.2
          refine lv_iconst (v := 2) hx hb d_Pl_endBentTo_29 (by decide) ?_
          refine lv_idiv hx hb d_Pl_endBentTo_30 (by decide) ?_
          refine lv_iload_n hx hb d_Pl_endBentTo_31 rfl (lv_at hl 2 rfl) ?_
          refine lv_icmp_ne (tgt := 37) hx hb d_Pl_endBentTo_32 (by decide) (fun c32 => ?_) (fun c32 => ?_)
          · replace hw := hw.1 c32
            refine lv_iinc (v := (x3_L4 + 1)) (lv' := [(3, .int (x3_L4 + 1)), (0, .ref q_t), (1, .int x1), (2, .int x2)]) hx hb d_Pl_endBentTo_37 hl (k := 3) rfl rfl (by decide) rfl (fun ls hl => ?_)
            refine lv_goto (tgt := 4) hx hb d_Pl_endBentTo_40 (by decide) ?_
            exact ih_4 (x3_L4 + 1) H _ _ hP hD hS (lv_sub hl [1, 2, 3, 0] rfl) hw
          · replace hw := hw.2 c32
            exact EX_35 x3_L4 H _ _ hP hD hS (lv_sub hl [0, 1, 2, 3] rfl) hw
  exact LP_4 n_4 (2 * x1) s.heap _ _ hP hD hS (lv_sub hl [1, 2, 3, 0] rfl) hw
def wk_Pl_endForBend_33_4 (P : Int32 → Prop) (x2_L4 : Int32) : Prop := P x2_L4
def wk_Pl_endForBend_41_4 (P : Int32 → Prop) (x2_L4 : Int32) : Prop := P (-1)
def wl_Pl_endForBend_4 (x1 : Int32) (f_t_thingAtEnd : (Nat → Int32)) (f_t_bendAtEnd : (Nat → Int32)) (K_33 : Int32 → Prop) (K_41 : Int32 → Prop) : Nat → Int32 → Prop
  | 0, _ => False
  | k_4 + 1, x2_L4 => ((((2 * x1) + 1) < x2_L4 → K_41 x2_L4) ∧ (¬ ((2 * x1) + 1) < x2_L4 → (vp_in x2_L4 120 ∧ ((¬ (f_t_thingAtEnd x2_L4.toNatClampNeg) = ((-1) : Int32) → wl_Pl_endForBend_4 x1 f_t_thingAtEnd f_t_bendAtEnd K_33 K_41 k_4 (x2_L4 + 1)) ∧ ((f_t_thingAtEnd x2_L4.toNatClampNeg) = ((-1) : Int32) → (vp_in x2_L4 120 ∧ ((¬ (f_t_bendAtEnd x2_L4.toNatClampNeg) = ((-1) : Int32) → wl_Pl_endForBend_4 x1 f_t_thingAtEnd f_t_bendAtEnd K_33 K_41 k_4 (x2_L4 + 1)) ∧ ((f_t_bendAtEnd x2_L4.toNatClampNeg) = ((-1) : Int32) → K_33 x2_L4))))))))
def wp_Pl_endForBend (f_t_thingAtEnd : (Nat → Int32)) (f_t_bendAtEnd : (Nat → Int32)) (x1 : Int32) (P : Int32 → Prop) : Prop := (∃ n_4 : Nat, wl_Pl_endForBend_4 x1 f_t_thingAtEnd f_t_bendAtEnd (wk_Pl_endForBend_33_4 P) (wk_Pl_endForBend_41_4 P) n_4 (2 * x1))
def w_Pl_endForBend : List Cond := .code y_Pl_endForBend b_Pl_endForBend 3 (some .int) :: tb
abbrev rm_Pl_endForBend : Room := { frames := 0, cells := 0, slots := 0, locals := 0 }
abbrev Q_Pl_endForBend (dC : Nat → ClassId) (dI : Nat → Nat → Nat) (cI cL cB : ClassId) (q_t : Nat) (q_t_kind : Nat) (q_t_position : Nat) (q_t_told : Nat) (q_t_capacity : Nat) (q_t_amount : Nat) (q_t_liquid : Nat) (q_t_portsTaken : Nat) (q_t_endAtPort : Nat) (q_t_pipeLitres : Nat) (q_t_thingAtEnd : Nat) (q_t_portAtEnd : Nat) (q_t_bendAtEnd : Nat) (q_t_inPipes : Nat) (v_t_things : Int32) (v_t_pipes : Int32) (f_t_thingAtEnd : (Nat → Int32)) (f_t_bendAtEnd : (Nat → Int32)) (x1 : Int32) (P : Int32 → Prop) (A : Nat → Prop) : Array Value → State → Outcome → State → Prop := va_Qi (fun (r : Int32) (u : Unit) => P r) (fun u t => va_P (dC, dI) classes [(q_t, .inr (1, [.int v_t_things, .ref q_t_kind, .ref q_t_position, .ref q_t_told, .ref q_t_capacity, .ref q_t_amount, .ref q_t_liquid, .ref q_t_portsTaken, .ref q_t_endAtPort, .int v_t_pipes, .ref q_t_pipeLitres, .ref q_t_thingAtEnd, .ref q_t_portAtEnd, .ref q_t_bendAtEnd, .ref q_t_inPipes])), (q_t_thingAtEnd, .inl (cI, 120, .inl f_t_thingAtEnd)), (q_t_bendAtEnd, .inl (cI, 120, .inl f_t_bendAtEnd))] t.heap ∧ va_K (dC, dI) classes [(cI, .int), (cL, .long), (cB, .byte)] t ∧ va_D A [(q_t, .inr (1, [.int v_t_things, .ref q_t_kind, .ref q_t_position, .ref q_t_told, .ref q_t_capacity, .ref q_t_amount, .ref q_t_liquid, .ref q_t_portsTaken, .ref q_t_endAtPort, .int v_t_pipes, .ref q_t_pipeLitres, .ref q_t_thingAtEnd, .ref q_t_portAtEnd, .ref q_t_bendAtEnd, .ref q_t_inPipes])), (q_t_thingAtEnd, .inl (cI, 120, .inl f_t_thingAtEnd)), (q_t_bendAtEnd, .inl (cI, 120, .inl f_t_bendAtEnd))]) A
set_option maxHeartbeats 4000000 in
set_option maxRecDepth 100000 in
theorem c_Pl_endForBend (l : Launch) (dC : Nat → ClassId) (dI : Nat → Nat → Nat) (cI cL cB : ClassId) (q_t : Nat) (q_t_kind : Nat) (q_t_position : Nat) (q_t_told : Nat) (q_t_capacity : Nat) (q_t_amount : Nat) (q_t_liquid : Nat) (q_t_portsTaken : Nat) (q_t_endAtPort : Nat) (q_t_pipeLitres : Nat) (q_t_thingAtEnd : Nat) (q_t_portAtEnd : Nat) (q_t_bendAtEnd : Nat) (q_t_inPipes : Nat) (sz : Nat) (v_t_things : Int32) (v_t_pipes : Int32) (f_t_thingAtEnd : (Nat → Int32)) (f_t_bendAtEnd : (Nat → Int32)) (x1 : Int32) (P : Int32 → Prop) (hw : wp_Pl_endForBend f_t_thingAtEnd f_t_bendAtEnd x1 P) : Met l y_Pl_endForBend w_Pl_endForBend rm_Pl_endForBend (va_Pc [.ref q_t, .int x1] (fun U => U.heap.size = sz ∧ va_P (dC, dI) classes [(q_t, .inr (1, [.int v_t_things, .ref q_t_kind, .ref q_t_position, .ref q_t_told, .ref q_t_capacity, .ref q_t_amount, .ref q_t_liquid, .ref q_t_portsTaken, .ref q_t_endAtPort, .int v_t_pipes, .ref q_t_pipeLitres, .ref q_t_thingAtEnd, .ref q_t_portAtEnd, .ref q_t_bendAtEnd, .ref q_t_inPipes])), (q_t_thingAtEnd, .inl (cI, 120, .inl f_t_thingAtEnd)), (q_t_bendAtEnd, .inl (cI, 120, .inl f_t_bendAtEnd))] U.heap ∧ va_K (dC, dI) classes [(cI, .int), (cL, .long), (cB, .byte)] U ∧ va_D (fun _ => True) [(q_t, .inr (1, [.int v_t_things, .ref q_t_kind, .ref q_t_position, .ref q_t_told, .ref q_t_capacity, .ref q_t_amount, .ref q_t_liquid, .ref q_t_portsTaken, .ref q_t_endAtPort, .int v_t_pipes, .ref q_t_pipeLitres, .ref q_t_thingAtEnd, .ref q_t_portAtEnd, .ref q_t_bendAtEnd, .ref q_t_inPipes])), (q_t_thingAtEnd, .inl (cI, 120, .inl f_t_thingAtEnd)), (q_t_bendAtEnd, .inl (cI, 120, .inl f_t_bendAtEnd))])) (Q_Pl_endForBend dC dI cI cL cB q_t q_t_kind q_t_position q_t_told q_t_capacity q_t_amount q_t_liquid q_t_portsTaken q_t_endAtPort q_t_pipeLitres q_t_thingAtEnd q_t_portAtEnd q_t_bendAtEnd q_t_inPipes v_t_things v_t_pipes f_t_thingAtEnd f_t_bendAtEnd x1 P (va_A [(q_t, .inr (1, [.int v_t_things, .ref q_t_kind, .ref q_t_position, .ref q_t_told, .ref q_t_capacity, .ref q_t_amount, .ref q_t_liquid, .ref q_t_portsTaken, .ref q_t_endAtPort, .int v_t_pipes, .ref q_t_pipeLitres, .ref q_t_thingAtEnd, .ref q_t_portAtEnd, .ref q_t_bendAtEnd, .ref q_t_inPipes])), (q_t_thingAtEnd, .inl (cI, 120, .inl f_t_thingAtEnd)), (q_t_bendAtEnd, .inl (cI, 120, .inl f_t_bendAtEnd))] sz)) 0 0 (va_A [(q_t, .inr (1, [.int v_t_things, .ref q_t_kind, .ref q_t_position, .ref q_t_told, .ref q_t_capacity, .ref q_t_amount, .ref q_t_liquid, .ref q_t_portsTaken, .ref q_t_endAtPort, .int v_t_pipes, .ref q_t_pipeLitres, .ref q_t_thingAtEnd, .ref q_t_portAtEnd, .ref q_t_bendAtEnd, .ref q_t_inPipes])), (q_t_thingAtEnd, .inl (cI, 120, .inl f_t_thingAtEnd)), (q_t_bendAtEnd, .inl (cI, 120, .inl f_t_bendAtEnd))] sz) := by
  refine Met.ofW (cc := b_Pl_endForBend) (maxL := 3) (ret := (some .int)) (by decide) rfl ?_
  intro p e s m args below meth c s₁ B hml hv
  obtain ⟨ha, hsz, hP, hK, hD0⟩ := hv
  have hx := B.exec
  have hb := B.bytes
  have hr := B.returns
  have hts0 := atoms_spec (ws := w_Pl_endForBend) B.pre
  have hts : ∀ w ∈ tb, w.before args s = true := fun w h => hts0 w (List.mem_cons_of_mem _ h)
  have hown : s.vm.findClass R_Pl = some m.cls := findClass_of_methodNamed B.named
  have hlocks := B.notSynchronized
  subst hsz
  have hD := hD0.self (sz := s.heap.size)
  generalize hAe : va_A [(q_t, .inr (1, [.int v_t_things, .ref q_t_kind, .ref q_t_position, .ref q_t_told, .ref q_t_capacity, .ref q_t_amount, .ref q_t_liquid, .ref q_t_portsTaken, .ref q_t_endAtPort, .int v_t_pipes, .ref q_t_pipeLitres, .ref q_t_thingAtEnd, .ref q_t_portAtEnd, .ref q_t_bendAtEnd, .ref q_t_inPipes])), (q_t_thingAtEnd, .inl (cI, 120, .inl f_t_thingAtEnd)), (q_t_bendAtEnd, .inl (cI, 120, .inl f_t_bendAtEnd))] s.heap.size = A at hD ⊢
  have hA : ∀ q : Nat, s.heap.size ≤ q → A q := fun q h => by rw [← hAe]; exact Or.inr h
  have hS : va_S A s.heap s.heap [] := va_S.rf
  have hP : va_P (dC, dI) classes [(q_t, .inr (1, [.int v_t_things, .ref q_t_kind, .ref q_t_position, .ref q_t_told, .ref q_t_capacity, .ref q_t_amount, .ref q_t_liquid, .ref q_t_portsTaken, .ref q_t_endAtPort, .int v_t_pipes, .ref q_t_pipeLitres, .ref q_t_thingAtEnd, .ref q_t_portAtEnd, .ref q_t_bendAtEnd, .ref q_t_inPipes])), (q_t_thingAtEnd, .inl (cI, 120, .inl f_t_thingAtEnd)), (q_t_bendAtEnd, .inl (cI, 120, .inl f_t_bendAtEnd))] s.heap := hP
  have hl := lv_entry [.ref q_t, .int x1] (n := 3) (Nat.le_of_ble_eq_true rfl)
  have he9 : entryFrame m args 3 = F0 m 0 ((lg_sl [.ref q_t, .int x1] ++ List.replicate (3 - (lg_sl [.ref q_t, .int x1]).length) Slot.unset).toArray) [] := by rw [ha]; exact lg_entry_eq _ _ _
  rw [he9]
  clear he9
  generalize (lg_sl [.ref q_t, .int x1] ++ List.replicate (3 - (lg_sl [.ref q_t, .int x1]).length) Slot.unset).toArray = ls at hl ⊢
  have hl : lv_has ls 3 [(0, .ref q_t), (1, .int x1)] := hl
  unfold wp_Pl_endForBend at hw
  refine lv_iconst (v := 2) hx hb d_Pl_endForBend_0 (by decide) ?_
  refine lv_iload_n hx hb d_Pl_endForBend_1 rfl (lv_at hl 1 rfl) ?_
  refine lv_imul hx hb d_Pl_endForBend_2 ?_
  refine lv_istore_n (lv' := [(2, .int (2 * x1)), (0, .ref q_t), (1, .int x1)]) hx hb d_Pl_endForBend_3 rfl hl (by decide) rfl (fun ls hl => ?_)
  obtain ⟨n_4, hw⟩ := hw
  have EX_33 : ∀ (x2_L4 : Int32) (H : Heap) (locs : List Loc) (ls : Array Slot), va_P (dC, dI) classes [(q_t, .inr (1, [.int v_t_things, .ref q_t_kind, .ref q_t_position, .ref q_t_told, .ref q_t_capacity, .ref q_t_amount, .ref q_t_liquid, .ref q_t_portsTaken, .ref q_t_endAtPort, .int v_t_pipes, .ref q_t_pipeLitres, .ref q_t_thingAtEnd, .ref q_t_portAtEnd, .ref q_t_bendAtEnd, .ref q_t_inPipes])), (q_t_thingAtEnd, .inl (cI, 120, .inl f_t_thingAtEnd)), (q_t_bendAtEnd, .inl (cI, 120, .inl f_t_bendAtEnd))] H → va_D A [(q_t, .inr (1, [.int v_t_things, .ref q_t_kind, .ref q_t_position, .ref q_t_told, .ref q_t_capacity, .ref q_t_amount, .ref q_t_liquid, .ref q_t_portsTaken, .ref q_t_endAtPort, .int v_t_pipes, .ref q_t_pipeLitres, .ref q_t_thingAtEnd, .ref q_t_portAtEnd, .ref q_t_bendAtEnd, .ref q_t_inPipes])), (q_t_thingAtEnd, .inl (cI, 120, .inl f_t_thingAtEnd)), (q_t_bendAtEnd, .inl (cI, 120, .inl f_t_bendAtEnd))] → va_S A s.heap H locs → lv_has ls 3 [(0, .ref q_t), (1, .int x1), (2, .int x2_L4)] → wk_Pl_endForBend_33_4 P x2_L4 → W p l e (headSpec w_Pl_endForBend rm_Pl_endForBend).room s m args below meth c H locs 0 0 (MQ below (Q_Pl_endForBend dC dI cI cL cB q_t q_t_kind q_t_position q_t_told q_t_capacity q_t_amount q_t_liquid q_t_portsTaken q_t_endAtPort q_t_pipeLitres q_t_thingAtEnd q_t_portAtEnd q_t_bendAtEnd q_t_inPipes v_t_things v_t_pipes f_t_thingAtEnd f_t_bendAtEnd x1 P A) args s 0 0 A) (F0 m 33 ls []) := by
    intro x2_L4 H locs ls hP hD hS hl hw
    unfold wk_Pl_endForBend_33_4 at hw
    refine lv_iload_n hx hb d_Pl_endForBend_33 rfl (lv_at hl 2 rfl) ?_
    exact W.iret (v := x2_L4) hx hb hr (fun t ht hW => ⟨⟨x2_L4, (), rfl, hw, by rw [ht]; exact hP, va_K.moved hW.alike hK, hD⟩, hS.F ht⟩) hS.2.2 d_Pl_endForBend_34
  have EX_41 : ∀ (x2_L4 : Int32) (H : Heap) (locs : List Loc) (ls : Array Slot), va_P (dC, dI) classes [(q_t, .inr (1, [.int v_t_things, .ref q_t_kind, .ref q_t_position, .ref q_t_told, .ref q_t_capacity, .ref q_t_amount, .ref q_t_liquid, .ref q_t_portsTaken, .ref q_t_endAtPort, .int v_t_pipes, .ref q_t_pipeLitres, .ref q_t_thingAtEnd, .ref q_t_portAtEnd, .ref q_t_bendAtEnd, .ref q_t_inPipes])), (q_t_thingAtEnd, .inl (cI, 120, .inl f_t_thingAtEnd)), (q_t_bendAtEnd, .inl (cI, 120, .inl f_t_bendAtEnd))] H → va_D A [(q_t, .inr (1, [.int v_t_things, .ref q_t_kind, .ref q_t_position, .ref q_t_told, .ref q_t_capacity, .ref q_t_amount, .ref q_t_liquid, .ref q_t_portsTaken, .ref q_t_endAtPort, .int v_t_pipes, .ref q_t_pipeLitres, .ref q_t_thingAtEnd, .ref q_t_portAtEnd, .ref q_t_bendAtEnd, .ref q_t_inPipes])), (q_t_thingAtEnd, .inl (cI, 120, .inl f_t_thingAtEnd)), (q_t_bendAtEnd, .inl (cI, 120, .inl f_t_bendAtEnd))] → va_S A s.heap H locs → lv_has ls 3 [(0, .ref q_t), (1, .int x1), (2, .int x2_L4)] → wk_Pl_endForBend_41_4 P x2_L4 → W p l e (headSpec w_Pl_endForBend rm_Pl_endForBend).room s m args below meth c H locs 0 0 (MQ below (Q_Pl_endForBend dC dI cI cL cB q_t q_t_kind q_t_position q_t_told q_t_capacity q_t_amount q_t_liquid q_t_portsTaken q_t_endAtPort q_t_pipeLitres q_t_thingAtEnd q_t_portAtEnd q_t_bendAtEnd q_t_inPipes v_t_things v_t_pipes f_t_thingAtEnd f_t_bendAtEnd x1 P A) args s 0 0 A) (F0 m 41 ls []) := by
    intro x2_L4 H locs ls hP hD hS hl hw
    unfold wk_Pl_endForBend_41_4 at hw
    refine lv_iconst (v := (-1)) hx hb d_Pl_endForBend_41 (by decide) ?_
    exact W.iret (v := (-1)) hx hb hr (fun t ht hW => ⟨⟨(-1), (), rfl, hw, by rw [ht]; exact hP, va_K.moved hW.alike hK, hD⟩, hS.F ht⟩) hS.2.2 d_Pl_endForBend_42
  have LP_4 : ∀ (k_4 : Nat) (x2_L4 : Int32) (H : Heap) (locs : List Loc) (ls : Array Slot), va_P (dC, dI) classes [(q_t, .inr (1, [.int v_t_things, .ref q_t_kind, .ref q_t_position, .ref q_t_told, .ref q_t_capacity, .ref q_t_amount, .ref q_t_liquid, .ref q_t_portsTaken, .ref q_t_endAtPort, .int v_t_pipes, .ref q_t_pipeLitres, .ref q_t_thingAtEnd, .ref q_t_portAtEnd, .ref q_t_bendAtEnd, .ref q_t_inPipes])), (q_t_thingAtEnd, .inl (cI, 120, .inl f_t_thingAtEnd)), (q_t_bendAtEnd, .inl (cI, 120, .inl f_t_bendAtEnd))] H → va_D A [(q_t, .inr (1, [.int v_t_things, .ref q_t_kind, .ref q_t_position, .ref q_t_told, .ref q_t_capacity, .ref q_t_amount, .ref q_t_liquid, .ref q_t_portsTaken, .ref q_t_endAtPort, .int v_t_pipes, .ref q_t_pipeLitres, .ref q_t_thingAtEnd, .ref q_t_portAtEnd, .ref q_t_bendAtEnd, .ref q_t_inPipes])), (q_t_thingAtEnd, .inl (cI, 120, .inl f_t_thingAtEnd)), (q_t_bendAtEnd, .inl (cI, 120, .inl f_t_bendAtEnd))] → va_S A s.heap H locs → lv_has ls 3 [(0, .ref q_t), (1, .int x1), (2, .int x2_L4)] → wl_Pl_endForBend_4 x1 f_t_thingAtEnd f_t_bendAtEnd (wk_Pl_endForBend_33_4 P) (wk_Pl_endForBend_41_4 P) k_4 x2_L4 → W p l e (headSpec w_Pl_endForBend rm_Pl_endForBend).room s m args below meth c H locs 0 0 (MQ below (Q_Pl_endForBend dC dI cI cL cB q_t q_t_kind q_t_position q_t_told q_t_capacity q_t_amount q_t_liquid q_t_portsTaken q_t_endAtPort q_t_pipeLitres q_t_thingAtEnd q_t_portAtEnd q_t_bendAtEnd q_t_inPipes v_t_things v_t_pipes f_t_thingAtEnd f_t_bendAtEnd x1 P A) args s 0 0 A) (F0 m 4 ls []) := by
    intro k_4
    induction k_4 with
    | zero => intro x2_L4 H locs ls hP hD hS hl hw; unfold wl_Pl_endForBend_4 at hw; exact hw.elim
    | succ k_4 ih_4 =>
      intro x2_L4 H locs ls hP hD hS hl hw
      unfold wl_Pl_endForBend_4 at hw
      refine lv_iload_n hx hb d_Pl_endForBend_4 rfl (lv_at hl 2 rfl) ?_
      refine lv_iconst (v := 2) hx hb d_Pl_endForBend_5 (by decide) ?_
      refine lv_iload_n hx hb d_Pl_endForBend_6 rfl (lv_at hl 1 rfl) ?_
      refine lv_imul hx hb d_Pl_endForBend_7 ?_
      refine lv_iconst (v := 1) hx hb d_Pl_endForBend_8 (by decide) ?_
      refine lv_iadd hx hb d_Pl_endForBend_9 ?_
      refine lv_icmp_gt (tgt := 41) hx hb d_Pl_endForBend_10 (by decide) (fun c10 => ?_) (fun c10 => ?_)
      · replace hw := hw.1 c10
        exact EX_41 x2_L4 H _ _ hP hD hS (lv_sub hl [0, 1, 2] rfl) hw
      · replace hw := hw.2 c10
        refine lv_aload_n hx hb d_Pl_endForBend_13 rfl (lv_at hl 0 rfl) ?_
        refine va_get (D := (dC, dI)) (ci := 1) (v := .ref q_t_thingAtEnd) (C := R_Pl) (T := F_Pl) (N := 15) hx hb hts i_Pl hown hK hP 0 rfl rfl 11 (by decide) (hts (Cond.fieldLink R_Pl 39 "PlantGraph$Plant" "thingAtEnd" "[I") kw15_1e13089) (fun _ h9 => h9) rfl d_Pl_endForBend_14 ?_
        refine lv_iload_n hx hb d_Pl_endForBend_17 rfl (lv_at hl 2 rfl) ?_
        refine va_iald hx hb hK hP 1 0 rfl rfl hw.1 d_Pl_endForBend_18 ?_
        replace hw := hw.2
        refine lv_iconst (v := (-1)) hx hb d_Pl_endForBend_19 (by decide) ?_
        refine lv_icmp_ne (tgt := 35) hx hb d_Pl_endForBend_20 (by decide) (fun c20 => ?_) (fun c20 => ?_)
        · replace hw := hw.1 c20
          refine lv_iinc (v := (x2_L4 + 1)) (lv' := [(2, .int (x2_L4 + 1)), (0, .ref q_t), (1, .int x1)]) hx hb d_Pl_endForBend_35 hl (k := 2) rfl rfl (by decide) rfl (fun ls hl => ?_)
          refine lv_goto (tgt := 4) hx hb d_Pl_endForBend_38 (by decide) ?_
          exact ih_4 (x2_L4 + 1) H _ _ hP hD hS (lv_sub hl [1, 2, 0] rfl) hw
        · replace hw := hw.2 c20
          refine lv_aload_n hx hb d_Pl_endForBend_23 rfl (lv_at hl 0 rfl) ?_
          refine va_get (D := (dC, dI)) (ci := 1) (v := .ref q_t_bendAtEnd) (C := R_Pl) (T := F_Pl) (N := 15) hx hb hts i_Pl hown hK hP 0 rfl rfl 13 (by decide) (hts (Cond.fieldLink R_Pl 45 "PlantGraph$Plant" "bendAtEnd" "[I") kw15_ff072c0) (fun _ h9 => h9) rfl d_Pl_endForBend_24 ?_
          refine lv_iload_n hx hb d_Pl_endForBend_27 rfl (lv_at hl 2 rfl) ?_
          refine va_iald hx hb hK hP 2 0 rfl rfl hw.1 d_Pl_endForBend_28 ?_
          replace hw := hw.2
          refine lv_iconst (v := (-1)) hx hb d_Pl_endForBend_29 (by decide) ?_
          refine lv_icmp_ne (tgt := 35) hx hb d_Pl_endForBend_30 (by decide) (fun c30 => ?_) (fun c30 => ?_)
          · replace hw := hw.1 c30
            refine lv_iinc (v := (x2_L4 + 1)) (lv' := [(2, .int (x2_L4 + 1)), (0, .ref q_t), (1, .int x1)]) hx hb d_Pl_endForBend_35 hl (k := 2) rfl rfl (by decide) rfl (fun ls hl => ?_)
            refine lv_goto (tgt := 4) hx hb d_Pl_endForBend_38 (by decide) ?_
            exact ih_4 (x2_L4 + 1) H _ _ hP hD hS (lv_sub hl [1, 2, 0] rfl) hw
          · replace hw := hw.2 c30
            exact EX_33 x2_L4 H _ _ hP hD hS (lv_sub hl [0, 1, 2] rfl) hw
  exact LP_4 n_4 (2 * x1) s.heap _ _ hP hD hS (lv_sub hl [1, 2, 0] rfl) hw
def wp_Pl_putBendIn (f_t_bendAtEnd : (Nat → Int32)) (x1 : Int32) (x2 : Int32) (P : (Nat → Int32) → Prop) : Prop := (vp_in x1 120 ∧ (vp_in x2 120 ∧ P (upd (upd f_t_bendAtEnd x1.toNatClampNeg x2) x2.toNatClampNeg x1)))
def w_Pl_putBendIn : List Cond := .code y_Pl_putBendIn b_Pl_putBendIn 3 none :: tb
abbrev rm_Pl_putBendIn : Room := { frames := 0, cells := 0, slots := 0, locals := 0 }
abbrev Q_Pl_putBendIn (dC : Nat → ClassId) (dI : Nat → Nat → Nat) (cI cL cB : ClassId) (q_t : Nat) (q_t_kind : Nat) (q_t_position : Nat) (q_t_told : Nat) (q_t_capacity : Nat) (q_t_amount : Nat) (q_t_liquid : Nat) (q_t_portsTaken : Nat) (q_t_endAtPort : Nat) (q_t_pipeLitres : Nat) (q_t_thingAtEnd : Nat) (q_t_portAtEnd : Nat) (q_t_bendAtEnd : Nat) (q_t_inPipes : Nat) (v_t_things : Int32) (v_t_pipes : Int32) (f_t_bendAtEnd : (Nat → Int32)) (x1 : Int32) (x2 : Int32) (P : (Nat → Int32) → Prop) (A : Nat → Prop) : Array Value → State → Outcome → State → Prop := va_Qv (fun (u : (Nat → Int32)) => P u) (fun u t => va_P (dC, dI) classes [(q_t, .inr (1, [.int v_t_things, .ref q_t_kind, .ref q_t_position, .ref q_t_told, .ref q_t_capacity, .ref q_t_amount, .ref q_t_liquid, .ref q_t_portsTaken, .ref q_t_endAtPort, .int v_t_pipes, .ref q_t_pipeLitres, .ref q_t_thingAtEnd, .ref q_t_portAtEnd, .ref q_t_bendAtEnd, .ref q_t_inPipes])), (q_t_bendAtEnd, .inl (cI, 120, .inl u))] t.heap ∧ va_K (dC, dI) classes [(cI, .int), (cL, .long), (cB, .byte)] t ∧ va_D A [(q_t, .inr (1, [.int v_t_things, .ref q_t_kind, .ref q_t_position, .ref q_t_told, .ref q_t_capacity, .ref q_t_amount, .ref q_t_liquid, .ref q_t_portsTaken, .ref q_t_endAtPort, .int v_t_pipes, .ref q_t_pipeLitres, .ref q_t_thingAtEnd, .ref q_t_portAtEnd, .ref q_t_bendAtEnd, .ref q_t_inPipes])), (q_t_bendAtEnd, .inl (cI, 120, .inl u))]) A
set_option maxHeartbeats 4000000 in
set_option maxRecDepth 100000 in
theorem c_Pl_putBendIn (l : Launch) (dC : Nat → ClassId) (dI : Nat → Nat → Nat) (cI cL cB : ClassId) (q_t : Nat) (q_t_kind : Nat) (q_t_position : Nat) (q_t_told : Nat) (q_t_capacity : Nat) (q_t_amount : Nat) (q_t_liquid : Nat) (q_t_portsTaken : Nat) (q_t_endAtPort : Nat) (q_t_pipeLitres : Nat) (q_t_thingAtEnd : Nat) (q_t_portAtEnd : Nat) (q_t_bendAtEnd : Nat) (q_t_inPipes : Nat) (sz : Nat) (v_t_things : Int32) (v_t_pipes : Int32) (f_t_bendAtEnd : (Nat → Int32)) (x1 : Int32) (x2 : Int32) (P : (Nat → Int32) → Prop) (hw : wp_Pl_putBendIn f_t_bendAtEnd x1 x2 P) : Met l y_Pl_putBendIn w_Pl_putBendIn rm_Pl_putBendIn (va_Pc [.ref q_t, .int x1, .int x2] (fun U => U.heap.size = sz ∧ va_P (dC, dI) classes [(q_t, .inr (1, [.int v_t_things, .ref q_t_kind, .ref q_t_position, .ref q_t_told, .ref q_t_capacity, .ref q_t_amount, .ref q_t_liquid, .ref q_t_portsTaken, .ref q_t_endAtPort, .int v_t_pipes, .ref q_t_pipeLitres, .ref q_t_thingAtEnd, .ref q_t_portAtEnd, .ref q_t_bendAtEnd, .ref q_t_inPipes])), (q_t_bendAtEnd, .inl (cI, 120, .inl f_t_bendAtEnd))] U.heap ∧ va_K (dC, dI) classes [(cI, .int), (cL, .long), (cB, .byte)] U ∧ va_D (fun _ => True) [(q_t, .inr (1, [.int v_t_things, .ref q_t_kind, .ref q_t_position, .ref q_t_told, .ref q_t_capacity, .ref q_t_amount, .ref q_t_liquid, .ref q_t_portsTaken, .ref q_t_endAtPort, .int v_t_pipes, .ref q_t_pipeLitres, .ref q_t_thingAtEnd, .ref q_t_portAtEnd, .ref q_t_bendAtEnd, .ref q_t_inPipes])), (q_t_bendAtEnd, .inl (cI, 120, .inl f_t_bendAtEnd))])) (Q_Pl_putBendIn dC dI cI cL cB q_t q_t_kind q_t_position q_t_told q_t_capacity q_t_amount q_t_liquid q_t_portsTaken q_t_endAtPort q_t_pipeLitres q_t_thingAtEnd q_t_portAtEnd q_t_bendAtEnd q_t_inPipes v_t_things v_t_pipes f_t_bendAtEnd x1 x2 P (va_A [(q_t, .inr (1, [.int v_t_things, .ref q_t_kind, .ref q_t_position, .ref q_t_told, .ref q_t_capacity, .ref q_t_amount, .ref q_t_liquid, .ref q_t_portsTaken, .ref q_t_endAtPort, .int v_t_pipes, .ref q_t_pipeLitres, .ref q_t_thingAtEnd, .ref q_t_portAtEnd, .ref q_t_bendAtEnd, .ref q_t_inPipes])), (q_t_bendAtEnd, .inl (cI, 120, .inl f_t_bendAtEnd))] sz)) 0 0 (va_A [(q_t, .inr (1, [.int v_t_things, .ref q_t_kind, .ref q_t_position, .ref q_t_told, .ref q_t_capacity, .ref q_t_amount, .ref q_t_liquid, .ref q_t_portsTaken, .ref q_t_endAtPort, .int v_t_pipes, .ref q_t_pipeLitres, .ref q_t_thingAtEnd, .ref q_t_portAtEnd, .ref q_t_bendAtEnd, .ref q_t_inPipes])), (q_t_bendAtEnd, .inl (cI, 120, .inl f_t_bendAtEnd))] sz) := by
  refine Met.ofW (cc := b_Pl_putBendIn) (maxL := 3) (ret := none) (by decide) rfl ?_
  intro p e s m args below meth c s₁ B hml hv
  obtain ⟨ha, hsz, hP, hK, hD0⟩ := hv
  have hx := B.exec
  have hb := B.bytes
  have hr := B.returns
  have hts0 := atoms_spec (ws := w_Pl_putBendIn) B.pre
  have hts : ∀ w ∈ tb, w.before args s = true := fun w h => hts0 w (List.mem_cons_of_mem _ h)
  have hown : s.vm.findClass R_Pl = some m.cls := findClass_of_methodNamed B.named
  have hlocks := B.notSynchronized
  subst hsz
  have hD := hD0.self (sz := s.heap.size)
  generalize hAe : va_A [(q_t, .inr (1, [.int v_t_things, .ref q_t_kind, .ref q_t_position, .ref q_t_told, .ref q_t_capacity, .ref q_t_amount, .ref q_t_liquid, .ref q_t_portsTaken, .ref q_t_endAtPort, .int v_t_pipes, .ref q_t_pipeLitres, .ref q_t_thingAtEnd, .ref q_t_portAtEnd, .ref q_t_bendAtEnd, .ref q_t_inPipes])), (q_t_bendAtEnd, .inl (cI, 120, .inl f_t_bendAtEnd))] s.heap.size = A at hD ⊢
  have hA : ∀ q : Nat, s.heap.size ≤ q → A q := fun q h => by rw [← hAe]; exact Or.inr h
  have hS : va_S A s.heap s.heap [] := va_S.rf
  have hP : va_P (dC, dI) classes [(q_t, .inr (1, [.int v_t_things, .ref q_t_kind, .ref q_t_position, .ref q_t_told, .ref q_t_capacity, .ref q_t_amount, .ref q_t_liquid, .ref q_t_portsTaken, .ref q_t_endAtPort, .int v_t_pipes, .ref q_t_pipeLitres, .ref q_t_thingAtEnd, .ref q_t_portAtEnd, .ref q_t_bendAtEnd, .ref q_t_inPipes])), (q_t_bendAtEnd, .inl (cI, 120, .inl f_t_bendAtEnd))] s.heap := hP
  have hl := lv_entry [.ref q_t, .int x1, .int x2] (n := 3) (Nat.le_of_ble_eq_true rfl)
  have he9 : entryFrame m args 3 = F0 m 0 ((lg_sl [.ref q_t, .int x1, .int x2] ++ List.replicate (3 - (lg_sl [.ref q_t, .int x1, .int x2]).length) Slot.unset).toArray) [] := by rw [ha]; exact lg_entry_eq _ _ _
  rw [he9]
  clear he9
  generalize (lg_sl [.ref q_t, .int x1, .int x2] ++ List.replicate (3 - (lg_sl [.ref q_t, .int x1, .int x2]).length) Slot.unset).toArray = ls at hl ⊢
  have hl : lv_has ls 3 [(0, .ref q_t), (1, .int x1), (2, .int x2)] := hl
  unfold wp_Pl_putBendIn at hw
  refine lv_aload_n hx hb d_Pl_putBendIn_0 rfl (lv_at hl 0 rfl) ?_
  refine va_get (D := (dC, dI)) (ci := 1) (v := .ref q_t_bendAtEnd) (C := R_Pl) (T := F_Pl) (N := 15) hx hb hts i_Pl hown hK hP 0 rfl rfl 13 (by decide) (hts (Cond.fieldLink R_Pl 45 "PlantGraph$Plant" "bendAtEnd" "[I") kw15_ff072c0) (fun _ h9 => h9) rfl d_Pl_putBendIn_1 ?_
  refine lv_iload_n hx hb d_Pl_putBendIn_4 rfl (lv_at hl 1 rfl) ?_
  refine lv_iload_n hx hb d_Pl_putBendIn_5 rfl (lv_at hl 2 rfl) ?_
  refine va_iast hx hb hK hP hD hS 1 0 rfl rfl hw.1 d_Pl_putBendIn_6 (fun H locs hP hD hS => ?_)
  replace hw := hw.2
  have hP : va_P (dC, dI) classes [(q_t, .inr (1, [.int v_t_things, .ref q_t_kind, .ref q_t_position, .ref q_t_told, .ref q_t_capacity, .ref q_t_amount, .ref q_t_liquid, .ref q_t_portsTaken, .ref q_t_endAtPort, .int v_t_pipes, .ref q_t_pipeLitres, .ref q_t_thingAtEnd, .ref q_t_portAtEnd, .ref q_t_bendAtEnd, .ref q_t_inPipes])), (q_t_bendAtEnd, .inl (cI, 120, .inl (upd f_t_bendAtEnd x1.toNatClampNeg x2)))] H := hP
  have hD : va_D A [(q_t, .inr (1, [.int v_t_things, .ref q_t_kind, .ref q_t_position, .ref q_t_told, .ref q_t_capacity, .ref q_t_amount, .ref q_t_liquid, .ref q_t_portsTaken, .ref q_t_endAtPort, .int v_t_pipes, .ref q_t_pipeLitres, .ref q_t_thingAtEnd, .ref q_t_portAtEnd, .ref q_t_bendAtEnd, .ref q_t_inPipes])), (q_t_bendAtEnd, .inl (cI, 120, .inl (upd f_t_bendAtEnd x1.toNatClampNeg x2)))] := hD
  refine lv_aload_n hx hb d_Pl_putBendIn_7 rfl (lv_at hl 0 rfl) ?_
  refine va_get (D := (dC, dI)) (ci := 1) (v := .ref q_t_bendAtEnd) (C := R_Pl) (T := F_Pl) (N := 15) hx hb hts i_Pl hown hK hP 0 rfl rfl 13 (by decide) (hts (Cond.fieldLink R_Pl 45 "PlantGraph$Plant" "bendAtEnd" "[I") kw15_ff072c0) (fun _ h9 => h9) rfl d_Pl_putBendIn_8 ?_
  refine lv_iload_n hx hb d_Pl_putBendIn_11 rfl (lv_at hl 2 rfl) ?_
  refine lv_iload_n hx hb d_Pl_putBendIn_12 rfl (lv_at hl 1 rfl) ?_
  refine va_iast hx hb hK hP hD hS 1 0 rfl rfl hw.1 d_Pl_putBendIn_13 (fun H locs hP hD hS => ?_)
  replace hw := hw.2
  have hP : va_P (dC, dI) classes [(q_t, .inr (1, [.int v_t_things, .ref q_t_kind, .ref q_t_position, .ref q_t_told, .ref q_t_capacity, .ref q_t_amount, .ref q_t_liquid, .ref q_t_portsTaken, .ref q_t_endAtPort, .int v_t_pipes, .ref q_t_pipeLitres, .ref q_t_thingAtEnd, .ref q_t_portAtEnd, .ref q_t_bendAtEnd, .ref q_t_inPipes])), (q_t_bendAtEnd, .inl (cI, 120, .inl (upd (upd f_t_bendAtEnd x1.toNatClampNeg x2) x2.toNatClampNeg x1)))] H := hP
  have hD : va_D A [(q_t, .inr (1, [.int v_t_things, .ref q_t_kind, .ref q_t_position, .ref q_t_told, .ref q_t_capacity, .ref q_t_amount, .ref q_t_liquid, .ref q_t_portsTaken, .ref q_t_endAtPort, .int v_t_pipes, .ref q_t_pipeLitres, .ref q_t_thingAtEnd, .ref q_t_portAtEnd, .ref q_t_bendAtEnd, .ref q_t_inPipes])), (q_t_bendAtEnd, .inl (cI, 120, .inl (upd (upd f_t_bendAtEnd x1.toNatClampNeg x2) x2.toNatClampNeg x1)))] := hD
  exact W.vret hx hb hr (fun t ht hW => ⟨⟨(upd (upd f_t_bendAtEnd x1.toNatClampNeg x2) x2.toNatClampNeg x1), rfl, hw, by rw [ht]; exact hP, va_K.moved hW.alike hK, hD⟩, hS.F ht⟩) hS.2.2 d_Pl_putBendIn_14
def wp_Pl_takeBendOut (f_t_bendAtEnd : (Nat → Int32)) (x1 : Int32) (P : (Nat → Int32) → Prop) : Prop := (vp_in x1 120 ∧ (vp_in x1 120 ∧ wp_PG_isBetween (((f_t_bendAtEnd x1.toNatClampNeg) : Int32).toInt64) 0 119 (fun r20 => ((r20 = 0 → P (upd f_t_bendAtEnd x1.toNatClampNeg (-1))) ∧ (¬ r20 = 0 → (vp_in (f_t_bendAtEnd x1.toNatClampNeg) 120 ∧ P (upd (upd f_t_bendAtEnd x1.toNatClampNeg (-1)) (f_t_bendAtEnd x1.toNatClampNeg).toNatClampNeg (-1))))))))
def w_Pl_takeBendOut : List Cond := .code y_Pl_takeBendOut b_Pl_takeBendOut 3 none :: tb
abbrev rm_Pl_takeBendOut : Room := { frames := 1, cells := 0, slots := 0, locals := 25 }
abbrev Q_Pl_takeBendOut (dC : Nat → ClassId) (dI : Nat → Nat → Nat) (cI cL cB : ClassId) (q_t : Nat) (q_t_kind : Nat) (q_t_position : Nat) (q_t_told : Nat) (q_t_capacity : Nat) (q_t_amount : Nat) (q_t_liquid : Nat) (q_t_portsTaken : Nat) (q_t_endAtPort : Nat) (q_t_pipeLitres : Nat) (q_t_thingAtEnd : Nat) (q_t_portAtEnd : Nat) (q_t_bendAtEnd : Nat) (q_t_inPipes : Nat) (v_t_things : Int32) (v_t_pipes : Int32) (f_t_bendAtEnd : (Nat → Int32)) (x1 : Int32) (P : (Nat → Int32) → Prop) (A : Nat → Prop) : Array Value → State → Outcome → State → Prop := va_Qv (fun (u : (Nat → Int32)) => P u) (fun u t => va_P (dC, dI) classes [(q_t, .inr (1, [.int v_t_things, .ref q_t_kind, .ref q_t_position, .ref q_t_told, .ref q_t_capacity, .ref q_t_amount, .ref q_t_liquid, .ref q_t_portsTaken, .ref q_t_endAtPort, .int v_t_pipes, .ref q_t_pipeLitres, .ref q_t_thingAtEnd, .ref q_t_portAtEnd, .ref q_t_bendAtEnd, .ref q_t_inPipes])), (q_t_bendAtEnd, .inl (cI, 120, .inl u))] t.heap ∧ va_K (dC, dI) classes [(cI, .int), (cL, .long), (cB, .byte)] t ∧ va_D A [(q_t, .inr (1, [.int v_t_things, .ref q_t_kind, .ref q_t_position, .ref q_t_told, .ref q_t_capacity, .ref q_t_amount, .ref q_t_liquid, .ref q_t_portsTaken, .ref q_t_endAtPort, .int v_t_pipes, .ref q_t_pipeLitres, .ref q_t_thingAtEnd, .ref q_t_portAtEnd, .ref q_t_bendAtEnd, .ref q_t_inPipes])), (q_t_bendAtEnd, .inl (cI, 120, .inl u))]) A
set_option maxHeartbeats 4000000 in
set_option maxRecDepth 100000 in
theorem c_Pl_takeBendOut (l : Launch) (dC : Nat → ClassId) (dI : Nat → Nat → Nat) (cI cL cB : ClassId) (q_t : Nat) (q_t_kind : Nat) (q_t_position : Nat) (q_t_told : Nat) (q_t_capacity : Nat) (q_t_amount : Nat) (q_t_liquid : Nat) (q_t_portsTaken : Nat) (q_t_endAtPort : Nat) (q_t_pipeLitres : Nat) (q_t_thingAtEnd : Nat) (q_t_portAtEnd : Nat) (q_t_bendAtEnd : Nat) (q_t_inPipes : Nat) (sz : Nat) (v_t_things : Int32) (v_t_pipes : Int32) (f_t_bendAtEnd : (Nat → Int32)) (x1 : Int32) (P : (Nat → Int32) → Prop) (hw : wp_Pl_takeBendOut f_t_bendAtEnd x1 P) : Met l y_Pl_takeBendOut w_Pl_takeBendOut rm_Pl_takeBendOut (va_Pc [.ref q_t, .int x1] (fun U => U.heap.size = sz ∧ va_P (dC, dI) classes [(q_t, .inr (1, [.int v_t_things, .ref q_t_kind, .ref q_t_position, .ref q_t_told, .ref q_t_capacity, .ref q_t_amount, .ref q_t_liquid, .ref q_t_portsTaken, .ref q_t_endAtPort, .int v_t_pipes, .ref q_t_pipeLitres, .ref q_t_thingAtEnd, .ref q_t_portAtEnd, .ref q_t_bendAtEnd, .ref q_t_inPipes])), (q_t_bendAtEnd, .inl (cI, 120, .inl f_t_bendAtEnd))] U.heap ∧ va_K (dC, dI) classes [(cI, .int), (cL, .long), (cB, .byte)] U ∧ va_D (fun _ => True) [(q_t, .inr (1, [.int v_t_things, .ref q_t_kind, .ref q_t_position, .ref q_t_told, .ref q_t_capacity, .ref q_t_amount, .ref q_t_liquid, .ref q_t_portsTaken, .ref q_t_endAtPort, .int v_t_pipes, .ref q_t_pipeLitres, .ref q_t_thingAtEnd, .ref q_t_portAtEnd, .ref q_t_bendAtEnd, .ref q_t_inPipes])), (q_t_bendAtEnd, .inl (cI, 120, .inl f_t_bendAtEnd))])) (Q_Pl_takeBendOut dC dI cI cL cB q_t q_t_kind q_t_position q_t_told q_t_capacity q_t_amount q_t_liquid q_t_portsTaken q_t_endAtPort q_t_pipeLitres q_t_thingAtEnd q_t_portAtEnd q_t_bendAtEnd q_t_inPipes v_t_things v_t_pipes f_t_bendAtEnd x1 P (va_A [(q_t, .inr (1, [.int v_t_things, .ref q_t_kind, .ref q_t_position, .ref q_t_told, .ref q_t_capacity, .ref q_t_amount, .ref q_t_liquid, .ref q_t_portsTaken, .ref q_t_endAtPort, .int v_t_pipes, .ref q_t_pipeLitres, .ref q_t_thingAtEnd, .ref q_t_portAtEnd, .ref q_t_bendAtEnd, .ref q_t_inPipes])), (q_t_bendAtEnd, .inl (cI, 120, .inl f_t_bendAtEnd))] sz)) 0 0 (va_A [(q_t, .inr (1, [.int v_t_things, .ref q_t_kind, .ref q_t_position, .ref q_t_told, .ref q_t_capacity, .ref q_t_amount, .ref q_t_liquid, .ref q_t_portsTaken, .ref q_t_endAtPort, .int v_t_pipes, .ref q_t_pipeLitres, .ref q_t_thingAtEnd, .ref q_t_portAtEnd, .ref q_t_bendAtEnd, .ref q_t_inPipes])), (q_t_bendAtEnd, .inl (cI, 120, .inl f_t_bendAtEnd))] sz) := by
  refine Met.ofW (cc := b_Pl_takeBendOut) (maxL := 3) (ret := none) (by decide) rfl ?_
  intro p e s m args below meth c s₁ B hml hv
  obtain ⟨ha, hsz, hP, hK, hD0⟩ := hv
  have hx := B.exec
  have hb := B.bytes
  have hr := B.returns
  have hts0 := atoms_spec (ws := w_Pl_takeBendOut) B.pre
  have hts : ∀ w ∈ tb, w.before args s = true := fun w h => hts0 w (List.mem_cons_of_mem _ h)
  have hown : s.vm.findClass R_Pl = some m.cls := findClass_of_methodNamed B.named
  have hlocks := B.notSynchronized
  subst hsz
  have hD := hD0.self (sz := s.heap.size)
  generalize hAe : va_A [(q_t, .inr (1, [.int v_t_things, .ref q_t_kind, .ref q_t_position, .ref q_t_told, .ref q_t_capacity, .ref q_t_amount, .ref q_t_liquid, .ref q_t_portsTaken, .ref q_t_endAtPort, .int v_t_pipes, .ref q_t_pipeLitres, .ref q_t_thingAtEnd, .ref q_t_portAtEnd, .ref q_t_bendAtEnd, .ref q_t_inPipes])), (q_t_bendAtEnd, .inl (cI, 120, .inl f_t_bendAtEnd))] s.heap.size = A at hD ⊢
  have hA : ∀ q : Nat, s.heap.size ≤ q → A q := fun q h => by rw [← hAe]; exact Or.inr h
  have hS : va_S A s.heap s.heap [] := va_S.rf
  have hP : va_P (dC, dI) classes [(q_t, .inr (1, [.int v_t_things, .ref q_t_kind, .ref q_t_position, .ref q_t_told, .ref q_t_capacity, .ref q_t_amount, .ref q_t_liquid, .ref q_t_portsTaken, .ref q_t_endAtPort, .int v_t_pipes, .ref q_t_pipeLitres, .ref q_t_thingAtEnd, .ref q_t_portAtEnd, .ref q_t_bendAtEnd, .ref q_t_inPipes])), (q_t_bendAtEnd, .inl (cI, 120, .inl f_t_bendAtEnd))] s.heap := hP
  have hl := lv_entry [.ref q_t, .int x1] (n := 3) (Nat.le_of_ble_eq_true rfl)
  have he9 : entryFrame m args 3 = F0 m 0 ((lg_sl [.ref q_t, .int x1] ++ List.replicate (3 - (lg_sl [.ref q_t, .int x1]).length) Slot.unset).toArray) [] := by rw [ha]; exact lg_entry_eq _ _ _
  rw [he9]
  clear he9
  generalize (lg_sl [.ref q_t, .int x1] ++ List.replicate (3 - (lg_sl [.ref q_t, .int x1]).length) Slot.unset).toArray = ls at hl ⊢
  have hl : lv_has ls 3 [(0, .ref q_t), (1, .int x1)] := hl
  unfold wp_Pl_takeBendOut at hw
  refine lv_aload_n hx hb d_Pl_takeBendOut_0 rfl (lv_at hl 0 rfl) ?_
  refine va_get (D := (dC, dI)) (ci := 1) (v := .ref q_t_bendAtEnd) (C := R_Pl) (T := F_Pl) (N := 15) hx hb hts i_Pl hown hK hP 0 rfl rfl 13 (by decide) (hts (Cond.fieldLink R_Pl 45 "PlantGraph$Plant" "bendAtEnd" "[I") kw15_ff072c0) (fun _ h9 => h9) rfl d_Pl_takeBendOut_1 ?_
  refine lv_iload_n hx hb d_Pl_takeBendOut_4 rfl (lv_at hl 1 rfl) ?_
  refine va_iald hx hb hK hP 1 0 rfl rfl hw.1 d_Pl_takeBendOut_5 ?_
  replace hw := hw.2
  refine lv_istore_n (lv' := [(2, .int (f_t_bendAtEnd x1.toNatClampNeg)), (0, .ref q_t), (1, .int x1)]) hx hb d_Pl_takeBendOut_6 rfl hl (by decide) rfl (fun ls hl => ?_)
  refine lv_aload_n hx hb d_Pl_takeBendOut_7 rfl (lv_at hl 1 rfl) ?_
  refine va_get (D := (dC, dI)) (ci := 1) (v := .ref q_t_bendAtEnd) (C := R_Pl) (T := F_Pl) (N := 15) hx hb hts i_Pl hown hK hP 0 rfl rfl 13 (by decide) (hts (Cond.fieldLink R_Pl 45 "PlantGraph$Plant" "bendAtEnd" "[I") kw15_ff072c0) (fun _ h9 => h9) rfl d_Pl_takeBendOut_8 ?_
  refine lv_iload_n hx hb d_Pl_takeBendOut_11 rfl (lv_at hl 2 rfl) ?_
  refine lv_iconst (v := (-1)) hx hb d_Pl_takeBendOut_12 (by decide) ?_
  refine va_iast hx hb hK hP hD hS 1 0 rfl rfl hw.1 d_Pl_takeBendOut_13 (fun H locs hP hD hS => ?_)
  replace hw := hw.2
  have hP : va_P (dC, dI) classes [(q_t, .inr (1, [.int v_t_things, .ref q_t_kind, .ref q_t_position, .ref q_t_told, .ref q_t_capacity, .ref q_t_amount, .ref q_t_liquid, .ref q_t_portsTaken, .ref q_t_endAtPort, .int v_t_pipes, .ref q_t_pipeLitres, .ref q_t_thingAtEnd, .ref q_t_portAtEnd, .ref q_t_bendAtEnd, .ref q_t_inPipes])), (q_t_bendAtEnd, .inl (cI, 120, .inl (upd f_t_bendAtEnd x1.toNatClampNeg (-1))))] H := hP
  have hD : va_D A [(q_t, .inr (1, [.int v_t_things, .ref q_t_kind, .ref q_t_position, .ref q_t_told, .ref q_t_capacity, .ref q_t_amount, .ref q_t_liquid, .ref q_t_portsTaken, .ref q_t_endAtPort, .int v_t_pipes, .ref q_t_pipeLitres, .ref q_t_thingAtEnd, .ref q_t_portAtEnd, .ref q_t_bendAtEnd, .ref q_t_inPipes])), (q_t_bendAtEnd, .inl (cI, 120, .inl (upd f_t_bendAtEnd x1.toNatClampNeg (-1))))] := hD
  refine lv_iload_n hx hb d_Pl_takeBendOut_14 rfl (lv_at hl 0 rfl) ?_
  refine lv_i2l hx hb d_Pl_takeBendOut_15 rfl ?_
  refine lv_lconst (v := 0) hx hb d_Pl_takeBendOut_16 (by decide) ?_
  refine lv_ldc2 (v := 119) hx hb hown (hts (Cond.constantLong R_Pl 94 119) kw15_0457dda) d_Pl_takeBendOut_17 ?_
  have hPc := hP.sub (ws' := []) [] rfl
  have hDc := hD.sub (ws' := []) [] (by decide) rfl
  have hFc := va_free (wc := []) hD hS hA [] rfl
  refine va_calli (va_runSN (As := [.long ((f_t_bendAtEnd x1.toNatClampNeg) : Int32).toInt64, .long 0, .long 119]) (rest := []) ⟨hx, hb, hml, hown, hts⟩ (c_PG_isBetween l dC dI cI cL cB  H.size  (((f_t_bendAtEnd x1.toNatClampNeg) : Int32).toInt64) 0 119 _ hw) ⟨my_cn 3 hts kw15_27e113c kw15_dc3dcb6 kw15_12156fe rfl rfl (by decide +kernel) ⟨Nat.le_of_ble_eq_true rfl, Nat.le_of_ble_eq_true rfl⟩, (hts (Cond.static y_PG_isBetween) kw15_674c2bf), trivial⟩ ⟨fun a U g mk q => by obtain ⟨q0, q1, qP, qK, qD⟩ := q; exact ⟨q0, q1, qP, va_K.moved (u := U) (U := U.calling g mk a) (Vm.Alike.refl U.vm) qK, qD⟩, fun U hU hW => ⟨rfl, by rw [hU], by rw [hU]; exact hPc, va_K.moved hW.alike hK, hDc.weaken (fun _ _ _ _ => trivial)⟩⟩ rfl rfl hl.1 rfl (lv_room (Nat.le_of_ble_eq_true rfl)) d_Pl_takeBendOut_20 ⟨Nat.zero_le _, Nat.zero_le _⟩) hS (fun q _ h => hFc q h) hFc (fun r20 u t H locs ht hvm hw hB hz1 hk1 hS => ?_)
  obtain ⟨hP1, hK1, hD1⟩ := hB
  rw [ht] at hP1
  obtain ⟨hP, hD⟩ := va_join (wr := [(q_t, .inr (1, [.int v_t_things, .ref q_t_kind, .ref q_t_position, .ref q_t_told, .ref q_t_capacity, .ref q_t_amount, .ref q_t_liquid, .ref q_t_portsTaken, .ref q_t_endAtPort, .int v_t_pipes, .ref q_t_pipeLitres, .ref q_t_thingAtEnd, .ref q_t_portAtEnd, .ref q_t_bendAtEnd, .ref q_t_inPipes])), (q_t_bendAtEnd, .inl (cI, 120, .inl (upd f_t_bendAtEnd x1.toNatClampNeg (-1))))]) (w1 := []) hP hD [] [0, 1] rfl rfl (by decide) (by decide) hk1 hFc hP1 hD1
  have hP : va_P (dC, dI) classes [(q_t, .inr (1, [.int v_t_things, .ref q_t_kind, .ref q_t_position, .ref q_t_told, .ref q_t_capacity, .ref q_t_amount, .ref q_t_liquid, .ref q_t_portsTaken, .ref q_t_endAtPort, .int v_t_pipes, .ref q_t_pipeLitres, .ref q_t_thingAtEnd, .ref q_t_portAtEnd, .ref q_t_bendAtEnd, .ref q_t_inPipes])), (q_t_bendAtEnd, .inl (cI, 120, .inl (upd f_t_bendAtEnd x1.toNatClampNeg (-1))))] H := hP.sub (ws' := [(q_t, .inr (1, [.int v_t_things, .ref q_t_kind, .ref q_t_position, .ref q_t_told, .ref q_t_capacity, .ref q_t_amount, .ref q_t_liquid, .ref q_t_portsTaken, .ref q_t_endAtPort, .int v_t_pipes, .ref q_t_pipeLitres, .ref q_t_thingAtEnd, .ref q_t_portAtEnd, .ref q_t_bendAtEnd, .ref q_t_inPipes])), (q_t_bendAtEnd, .inl (cI, 120, .inl (upd f_t_bendAtEnd x1.toNatClampNeg (-1))))]) [0, 1] rfl
  have hD : va_D A [(q_t, .inr (1, [.int v_t_things, .ref q_t_kind, .ref q_t_position, .ref q_t_told, .ref q_t_capacity, .ref q_t_amount, .ref q_t_liquid, .ref q_t_portsTaken, .ref q_t_endAtPort, .int v_t_pipes, .ref q_t_pipeLitres, .ref q_t_thingAtEnd, .ref q_t_portAtEnd, .ref q_t_bendAtEnd, .ref q_t_inPipes])), (q_t_bendAtEnd, .inl (cI, 120, .inl (upd f_t_bendAtEnd x1.toNatClampNeg (-1))))] := hD.sub (ws' := [(q_t, .inr (1, [.int v_t_things, .ref q_t_kind, .ref q_t_position, .ref q_t_told, .ref q_t_capacity, .ref q_t_amount, .ref q_t_liquid, .ref q_t_portsTaken, .ref q_t_endAtPort, .int v_t_pipes, .ref q_t_pipeLitres, .ref q_t_thingAtEnd, .ref q_t_portAtEnd, .ref q_t_bendAtEnd, .ref q_t_inPipes])), (q_t_bendAtEnd, .inl (cI, 120, .inl (upd f_t_bendAtEnd x1.toNatClampNeg (-1))))]) [0, 1] (by decide) rfl
  refine lv_if_eq (tgt := 33) hx hb d_Pl_takeBendOut_23 (by decide) (fun c23 => ?_) (fun c23 => ?_)
  · replace hw := hw.1 c23
    exact W.vret hx hb hr (fun t ht hW => ⟨⟨(upd f_t_bendAtEnd x1.toNatClampNeg (-1)), rfl, hw, by rw [ht]; exact hP, va_K.moved hW.alike hK, hD⟩, hS.F ht⟩) hS.2.2 d_Pl_takeBendOut_33
  · replace hw := hw.2 c23
    refine lv_aload_n hx hb d_Pl_takeBendOut_26 rfl (lv_at hl 1 rfl) ?_
    refine va_get (D := (dC, dI)) (ci := 1) (v := .ref q_t_bendAtEnd) (C := R_Pl) (T := F_Pl) (N := 15) hx hb hts i_Pl hown hK hP 0 rfl rfl 13 (by decide) (hts (Cond.fieldLink R_Pl 45 "PlantGraph$Plant" "bendAtEnd" "[I") kw15_ff072c0) (fun _ h9 => h9) rfl d_Pl_takeBendOut_27 ?_
    refine lv_iload_n hx hb d_Pl_takeBendOut_30 rfl (lv_at hl 0 rfl) ?_
    refine lv_iconst (v := (-1)) hx hb d_Pl_takeBendOut_31 (by decide) ?_
    refine va_iast hx hb hK hP hD hS 1 0 rfl rfl hw.1 d_Pl_takeBendOut_32 (fun H locs hP hD hS => ?_)
    replace hw := hw.2
    have hP : va_P (dC, dI) classes [(q_t, .inr (1, [.int v_t_things, .ref q_t_kind, .ref q_t_position, .ref q_t_told, .ref q_t_capacity, .ref q_t_amount, .ref q_t_liquid, .ref q_t_portsTaken, .ref q_t_endAtPort, .int v_t_pipes, .ref q_t_pipeLitres, .ref q_t_thingAtEnd, .ref q_t_portAtEnd, .ref q_t_bendAtEnd, .ref q_t_inPipes])), (q_t_bendAtEnd, .inl (cI, 120, .inl (upd (upd f_t_bendAtEnd x1.toNatClampNeg (-1)) (f_t_bendAtEnd x1.toNatClampNeg).toNatClampNeg (-1))))] H := hP
    have hD : va_D A [(q_t, .inr (1, [.int v_t_things, .ref q_t_kind, .ref q_t_position, .ref q_t_told, .ref q_t_capacity, .ref q_t_amount, .ref q_t_liquid, .ref q_t_portsTaken, .ref q_t_endAtPort, .int v_t_pipes, .ref q_t_pipeLitres, .ref q_t_thingAtEnd, .ref q_t_portAtEnd, .ref q_t_bendAtEnd, .ref q_t_inPipes])), (q_t_bendAtEnd, .inl (cI, 120, .inl (upd (upd f_t_bendAtEnd x1.toNatClampNeg (-1)) (f_t_bendAtEnd x1.toNatClampNeg).toNatClampNeg (-1))))] := hD
    exact W.vret hx hb hr (fun t ht hW => ⟨⟨(upd (upd f_t_bendAtEnd x1.toNatClampNeg (-1)) (f_t_bendAtEnd x1.toNatClampNeg).toNatClampNeg (-1)), rfl, hw, by rw [ht]; exact hP, va_K.moved hW.alike hK, hD⟩, hS.F ht⟩) hS.2.2 d_Pl_takeBendOut_33
def wp_Pl_isPair (x0 : Int32) (x1 : Int32) (x2 : Int32) (x3 : Int32) (P : Int32 → Prop) : Prop := ((¬ x0 = x2 → ((¬ x0 = x3 → P 0) ∧ (x0 = x3 → ((¬ x1 = x2 → P 0) ∧ (x1 = x2 → P 1))))) ∧ (x0 = x2 → ((x1 = x3 → P 1) ∧ (¬ x1 = x3 → ((¬ x0 = x3 → P 0) ∧ (x0 = x3 → ((¬ x1 = x2 → P 0) ∧ (x1 = x2 → P 1))))))))
def w_Pl_isPair : List Cond := .code y_Pl_isPair b_Pl_isPair 4 (some .boolean) :: tb
abbrev rm_Pl_isPair : Room := { frames := 0, cells := 0, slots := 0, locals := 0 }
abbrev Q_Pl_isPair (dC : Nat → ClassId) (dI : Nat → Nat → Nat) (cI cL cB : ClassId) (x0 : Int32) (x1 : Int32) (x2 : Int32) (x3 : Int32) (P : Int32 → Prop) (A : Nat → Prop) : Array Value → State → Outcome → State → Prop := va_Qi (fun (r : Int32) (u : Unit) => P r) (fun u t => va_P (dC, dI) classes [] t.heap ∧ va_K (dC, dI) classes [(cI, .int), (cL, .long), (cB, .byte)] t ∧ va_D A []) A
set_option maxHeartbeats 4000000 in
set_option maxRecDepth 100000 in
theorem c_Pl_isPair (l : Launch) (dC : Nat → ClassId) (dI : Nat → Nat → Nat) (cI cL cB : ClassId) (sz : Nat) (x0 : Int32) (x1 : Int32) (x2 : Int32) (x3 : Int32) (P : Int32 → Prop) (hw : wp_Pl_isPair x0 x1 x2 x3 P) : Met l y_Pl_isPair w_Pl_isPair rm_Pl_isPair (va_Pc [.int x0, .int x1, .int x2, .int x3] (fun U => U.heap.size = sz ∧ va_P (dC, dI) classes [] U.heap ∧ va_K (dC, dI) classes [(cI, .int), (cL, .long), (cB, .byte)] U ∧ va_D (fun _ => True) [])) (Q_Pl_isPair dC dI cI cL cB x0 x1 x2 x3 P (va_A [] sz)) 0 0 (va_A [] sz) := by
  refine Met.ofW (cc := b_Pl_isPair) (maxL := 4) (ret := (some .boolean)) (by decide) rfl ?_
  intro p e s m args below meth c s₁ B hml hv
  obtain ⟨ha, hsz, hP, hK, hD0⟩ := hv
  have hx := B.exec
  have hb := B.bytes
  have hr := B.returns
  have hts0 := atoms_spec (ws := w_Pl_isPair) B.pre
  have hts : ∀ w ∈ tb, w.before args s = true := fun w h => hts0 w (List.mem_cons_of_mem _ h)
  have hown : s.vm.findClass R_Pl = some m.cls := findClass_of_methodNamed B.named
  have hlocks := B.notSynchronized
  subst hsz
  have hD := hD0.self (sz := s.heap.size)
  generalize hAe : va_A [] s.heap.size = A at hD ⊢
  have hA : ∀ q : Nat, s.heap.size ≤ q → A q := fun q h => by rw [← hAe]; exact Or.inr h
  have hS : va_S A s.heap s.heap [] := va_S.rf
  have hP : va_P (dC, dI) classes [] s.heap := hP
  have hl := lv_entry [.int x0, .int x1, .int x2, .int x3] (n := 4) (Nat.le_of_ble_eq_true rfl)
  have he9 : entryFrame m args 4 = F0 m 0 ((lg_sl [.int x0, .int x1, .int x2, .int x3] ++ List.replicate (4 - (lg_sl [.int x0, .int x1, .int x2, .int x3]).length) Slot.unset).toArray) [] := by rw [ha]; exact lg_entry_eq _ _ _
  rw [he9]
  clear he9
  generalize (lg_sl [.int x0, .int x1, .int x2, .int x3] ++ List.replicate (4 - (lg_sl [.int x0, .int x1, .int x2, .int x3]).length) Slot.unset).toArray = ls at hl ⊢
  have hl : lv_has ls 4 [(0, .int x0), (1, .int x1), (2, .int x2), (3, .int x3)] := hl
  unfold wp_Pl_isPair at hw
  refine lv_iload_n hx hb d_Pl_isPair_0 rfl (lv_at hl 0 rfl) ?_
  refine lv_iload_n hx hb d_Pl_isPair_1 rfl (lv_at hl 2 rfl) ?_
  refine lv_icmp_ne (tgt := 10) hx hb d_Pl_isPair_2 (by decide) (fun c2 => ?_) (fun c2 => ?_)
  · replace hw := hw.1 c2
    refine lv_iload_n hx hb d_Pl_isPair_10 rfl (lv_at hl 0 rfl) ?_
    refine lv_iload_n hx hb d_Pl_isPair_11 rfl (lv_at hl 3 rfl) ?_
    refine lv_icmp_ne (tgt := 24) hx hb d_Pl_isPair_12 (by decide) (fun c12 => ?_) (fun c12 => ?_)
    · replace hw := hw.1 c12
      refine lv_iconst (v := 0) hx hb d_Pl_isPair_24 (by decide) ?_
      exact W.zret (v := 0) hx hb hr (by decide) (fun t ht hW => ⟨⟨0, (), rfl, hw, by rw [ht]; exact hP, va_K.moved hW.alike hK, hD⟩, hS.F ht⟩) hS.2.2 d_Pl_isPair_25
    · replace hw := hw.2 c12
      refine lv_iload_n hx hb d_Pl_isPair_15 rfl (lv_at hl 1 rfl) ?_
      refine lv_iload_n hx hb d_Pl_isPair_16 rfl (lv_at hl 2 rfl) ?_
      refine lv_icmp_ne (tgt := 24) hx hb d_Pl_isPair_17 (by decide) (fun c17 => ?_) (fun c17 => ?_)
      · replace hw := hw.1 c17
        refine lv_iconst (v := 0) hx hb d_Pl_isPair_24 (by decide) ?_
        exact W.zret (v := 0) hx hb hr (by decide) (fun t ht hW => ⟨⟨0, (), rfl, hw, by rw [ht]; exact hP, va_K.moved hW.alike hK, hD⟩, hS.F ht⟩) hS.2.2 d_Pl_isPair_25
      · replace hw := hw.2 c17
        refine lv_iconst (v := 1) hx hb d_Pl_isPair_20 (by decide) ?_
        refine lv_goto (tgt := 25) hx hb d_Pl_isPair_21 (by decide) ?_
        exact W.zret (v := 1) hx hb hr (by decide) (fun t ht hW => ⟨⟨1, (), rfl, hw, by rw [ht]; exact hP, va_K.moved hW.alike hK, hD⟩, hS.F ht⟩) hS.2.2 d_Pl_isPair_25
  · replace hw := hw.2 c2
    refine lv_iload_n hx hb d_Pl_isPair_5 rfl (lv_at hl 1 rfl) ?_
    refine lv_iload_n hx hb d_Pl_isPair_6 rfl (lv_at hl 3 rfl) ?_
    refine lv_icmp_eq (tgt := 20) hx hb d_Pl_isPair_7 (by decide) (fun c7 => ?_) (fun c7 => ?_)
    · replace hw := hw.1 c7
      refine lv_iconst (v := 1) hx hb d_Pl_isPair_20 (by decide) ?_
      refine lv_goto (tgt := 25) hx hb d_Pl_isPair_21 (by decide) ?_
      exact W.zret (v := 1) hx hb hr (by decide) (fun t ht hW => ⟨⟨1, (), rfl, hw, by rw [ht]; exact hP, va_K.moved hW.alike hK, hD⟩, hS.F ht⟩) hS.2.2 d_Pl_isPair_25
    · replace hw := hw.2 c7
      refine lv_iload_n hx hb d_Pl_isPair_10 rfl (lv_at hl 0 rfl) ?_
      refine lv_iload_n hx hb d_Pl_isPair_11 rfl (lv_at hl 3 rfl) ?_
      refine lv_icmp_ne (tgt := 24) hx hb d_Pl_isPair_12 (by decide) (fun c12 => ?_) (fun c12 => ?_)
      · replace hw := hw.1 c12
        refine lv_iconst (v := 0) hx hb d_Pl_isPair_24 (by decide) ?_
        exact W.zret (v := 0) hx hb hr (by decide) (fun t ht hW => ⟨⟨0, (), rfl, hw, by rw [ht]; exact hP, va_K.moved hW.alike hK, hD⟩, hS.F ht⟩) hS.2.2 d_Pl_isPair_25
      · replace hw := hw.2 c12
        refine lv_iload_n hx hb d_Pl_isPair_15 rfl (lv_at hl 1 rfl) ?_
        refine lv_iload_n hx hb d_Pl_isPair_16 rfl (lv_at hl 2 rfl) ?_
        refine lv_icmp_ne (tgt := 24) hx hb d_Pl_isPair_17 (by decide) (fun c17 => ?_) (fun c17 => ?_)
        · replace hw := hw.1 c17
          refine lv_iconst (v := 0) hx hb d_Pl_isPair_24 (by decide) ?_
          exact W.zret (v := 0) hx hb hr (by decide) (fun t ht hW => ⟨⟨0, (), rfl, hw, by rw [ht]; exact hP, va_K.moved hW.alike hK, hD⟩, hS.F ht⟩) hS.2.2 d_Pl_isPair_25
        · replace hw := hw.2 c17
          refine lv_iconst (v := 1) hx hb d_Pl_isPair_20 (by decide) ?_
          refine lv_goto (tgt := 25) hx hb d_Pl_isPair_21 (by decide) ?_
          exact W.zret (v := 1) hx hb hr (by decide) (fun t ht hW => ⟨⟨1, (), rfl, hw, by rw [ht]; exact hP, va_K.moved hW.alike hK, hD⟩, hS.F ht⟩) hS.2.2 d_Pl_isPair_25
def wp_Pl_passes (f_t_kind : (Nat → Int32)) (f_t_position : (Nat → Int32)) (x1 : Int32) (x2 : Int32) (x3 : Int32) (P : Int32 → Prop) : Prop := ((¬ x2 = x3 → (vp_in x1 40 ∧ (vp_in x1 40 ∧ (((f_t_kind x1.toNatClampNeg) = 0 → ((¬ (f_t_position x1.toNatClampNeg) = (1 : Int32) → P 0) ∧ ((f_t_position x1.toNatClampNeg) = (1 : Int32) → P 1))) ∧ (¬ (f_t_kind x1.toNatClampNeg) = 0 → (((f_t_kind x1.toNatClampNeg) = 1 → ((¬ (f_t_position x1.toNatClampNeg) = 0 → ((¬ (f_t_position x1.toNatClampNeg) = (1 : Int32) → P 0) ∧ ((f_t_position x1.toNatClampNeg) = (1 : Int32) → wp_Pl_isPair x2 x3 0 2 (fun r113 => ((r113 = 0 → P 0) ∧ (¬ r113 = 0 → P 1)))))) ∧ ((f_t_position x1.toNatClampNeg) = 0 → wp_Pl_isPair x2 x3 0 1 (fun r97 => ((¬ r97 = 0 → P 1) ∧ (r97 = 0 → ((¬ (f_t_position x1.toNatClampNeg) = (1 : Int32) → P 0) ∧ ((f_t_position x1.toNatClampNeg) = (1 : Int32) → wp_Pl_isPair x2 x3 0 2 (fun r113 => ((r113 = 0 → P 0) ∧ (¬ r113 = 0 → P 1))))))))))) ∧ (¬ (f_t_kind x1.toNatClampNeg) = 1 → (((f_t_kind x1.toNatClampNeg) = 2 → (((f_t_position x1.toNatClampNeg) = 0 → P 1) ∧ (¬ (f_t_position x1.toNatClampNeg) = 0 → ((¬ (f_t_position x1.toNatClampNeg) = (1 : Int32) → ((¬ (f_t_position x1.toNatClampNeg) = (2 : Int32) → ((¬ (f_t_position x1.toNatClampNeg) = (3 : Int32) → P 0) ∧ ((f_t_position x1.toNatClampNeg) = (3 : Int32) → wp_Pl_isPair x2 x3 1 2 (fun r172 => ((r172 = 0 → P 0) ∧ (¬ r172 = 0 → P 1)))))) ∧ ((f_t_position x1.toNatClampNeg) = (2 : Int32) → wp_Pl_isPair x2 x3 0 2 (fun r156 => ((¬ r156 = 0 → P 1) ∧ (r156 = 0 → ((¬ (f_t_position x1.toNatClampNeg) = (3 : Int32) → P 0) ∧ ((f_t_position x1.toNatClampNeg) = (3 : Int32) → wp_Pl_isPair x2 x3 1 2 (fun r172 => ((r172 = 0 → P 0) ∧ (¬ r172 = 0 → P 1))))))))))) ∧ ((f_t_position x1.toNatClampNeg) = (1 : Int32) → wp_Pl_isPair x2 x3 0 1 (fun r140 => ((¬ r140 = 0 → P 1) ∧ (r140 = 0 → ((¬ (f_t_position x1.toNatClampNeg) = (2 : Int32) → ((¬ (f_t_position x1.toNatClampNeg) = (3 : Int32) → P 0) ∧ ((f_t_position x1.toNatClampNeg) = (3 : Int32) → wp_Pl_isPair x2 x3 1 2 (fun r172 => ((r172 = 0 → P 0) ∧ (¬ r172 = 0 → P 1)))))) ∧ ((f_t_position x1.toNatClampNeg) = (2 : Int32) → wp_Pl_isPair x2 x3 0 2 (fun r156 => ((¬ r156 = 0 → P 1) ∧ (r156 = 0 → ((¬ (f_t_position x1.toNatClampNeg) = (3 : Int32) → P 0) ∧ ((f_t_position x1.toNatClampNeg) = (3 : Int32) → wp_Pl_isPair x2 x3 1 2 (fun r172 => ((r172 = 0 → P 0) ∧ (¬ r172 = 0 → P 1)))))))))))))))))) ∧ (¬ (f_t_kind x1.toNatClampNeg) = 2 → (((f_t_kind x1.toNatClampNeg) = 3 → ((¬ x2 = 0 → P 0) ∧ (x2 = 0 → P 1))) ∧ (¬ (f_t_kind x1.toNatClampNeg) = 3 → (((f_t_kind x1.toNatClampNeg) = 4 → (((f_t_position x1.toNatClampNeg) = (1 : Int32) → P 1) ∧ (¬ (f_t_position x1.toNatClampNeg) = (1 : Int32) → ((¬ (f_t_position x1.toNatClampNeg) = 0 → P 0) ∧ ((f_t_position x1.toNatClampNeg) = 0 → wp_Pl_isPair x2 x3 0 1 (fun r199 => ((¬ r199 = 0 → P 1) ∧ (r199 = 0 → wp_Pl_isPair x2 x3 2 3 (fun r209 => ((r209 = 0 → P 0) ∧ (¬ r209 = 0 → P 1))))))))))) ∧ (¬ (f_t_kind x1.toNatClampNeg) = 4 → (((f_t_kind x1.toNatClampNeg) = 5 → P 0) ∧ (¬ (f_t_kind x1.toNatClampNeg) = 5 → (((f_t_kind x1.toNatClampNeg) = 6 → ((¬ (f_t_position x1.toNatClampNeg) = 0 → ((¬ (f_t_position x1.toNatClampNeg) = (1 : Int32) → P 0) ∧ ((f_t_position x1.toNatClampNeg) = (1 : Int32) → wp_Pl_isPair x2 x3 0 3 (fun r256 => ((¬ r256 = 0 → P 1) ∧ (r256 = 0 → wp_Pl_isPair x2 x3 1 2 (fun r266 => ((r266 = 0 → P 0) ∧ (¬ r266 = 0 → P 1))))))))) ∧ ((f_t_position x1.toNatClampNeg) = 0 → wp_Pl_isPair x2 x3 0 1 (fun r230 => ((¬ r230 = 0 → P 1) ∧ (r230 = 0 → wp_Pl_isPair x2 x3 2 3 (fun r240 => ((¬ r240 = 0 → P 1) ∧ (r240 = 0 → ((¬ (f_t_position x1.toNatClampNeg) = (1 : Int32) → P 0) ∧ ((f_t_position x1.toNatClampNeg) = (1 : Int32) → wp_Pl_isPair x2 x3 0 3 (fun r256 => ((¬ r256 = 0 → P 1) ∧ (r256 = 0 → wp_Pl_isPair x2 x3 1 2 (fun r266 => ((r266 = 0 → P 0) ∧ (¬ r266 = 0 → P 1))))))))))))))))) ∧ (¬ (f_t_kind x1.toNatClampNeg) = 6 → (((f_t_kind x1.toNatClampNeg) = 7 → (((f_t_position x1.toNatClampNeg) = 0 → P 0) ∧ (¬ (f_t_position x1.toNatClampNeg) = 0 → P 1))) ∧ (¬ (f_t_kind x1.toNatClampNeg) = 7 → (((f_t_kind x1.toNatClampNeg) = 8 → ((¬ (f_t_position x1.toNatClampNeg) = (1 : Int32) → P 0) ∧ ((f_t_position x1.toNatClampNeg) = (1 : Int32) → ((¬ x2 = 0 → P 0) ∧ (x2 = 0 → P 1))))) ∧ (¬ (f_t_kind x1.toNatClampNeg) = 8 → (((f_t_kind x1.toNatClampNeg) = 9 → ((¬ x2 = 0 → P 0) ∧ (x2 = 0 → P 1))) ∧ (¬ (f_t_kind x1.toNatClampNeg) = 9 → P 0))))))))))))))))))))))) ∧ (x2 = x3 → P 0))
def w_Pl_passes : List Cond := .code y_Pl_passes b_Pl_passes 5 (some .boolean) :: tb
abbrev rm_Pl_passes : Room := { frames := 1, cells := 0, slots := 0, locals := 23 }
abbrev Q_Pl_passes (dC : Nat → ClassId) (dI : Nat → Nat → Nat) (cI cL cB : ClassId) (q_t : Nat) (q_t_kind : Nat) (q_t_position : Nat) (q_t_told : Nat) (q_t_capacity : Nat) (q_t_amount : Nat) (q_t_liquid : Nat) (q_t_portsTaken : Nat) (q_t_endAtPort : Nat) (q_t_pipeLitres : Nat) (q_t_thingAtEnd : Nat) (q_t_portAtEnd : Nat) (q_t_bendAtEnd : Nat) (q_t_inPipes : Nat) (v_t_things : Int32) (v_t_pipes : Int32) (f_t_kind : (Nat → Int32)) (f_t_position : (Nat → Int32)) (x1 : Int32) (x2 : Int32) (x3 : Int32) (P : Int32 → Prop) (A : Nat → Prop) : Array Value → State → Outcome → State → Prop := va_Qi (fun (r : Int32) (u : Unit) => P r) (fun u t => va_P (dC, dI) classes [(q_t, .inr (1, [.int v_t_things, .ref q_t_kind, .ref q_t_position, .ref q_t_told, .ref q_t_capacity, .ref q_t_amount, .ref q_t_liquid, .ref q_t_portsTaken, .ref q_t_endAtPort, .int v_t_pipes, .ref q_t_pipeLitres, .ref q_t_thingAtEnd, .ref q_t_portAtEnd, .ref q_t_bendAtEnd, .ref q_t_inPipes])), (q_t_kind, .inl (cI, 40, .inl f_t_kind)), (q_t_position, .inl (cI, 40, .inl f_t_position))] t.heap ∧ va_K (dC, dI) classes [(cI, .int), (cL, .long), (cB, .byte)] t ∧ va_D A [(q_t, .inr (1, [.int v_t_things, .ref q_t_kind, .ref q_t_position, .ref q_t_told, .ref q_t_capacity, .ref q_t_amount, .ref q_t_liquid, .ref q_t_portsTaken, .ref q_t_endAtPort, .int v_t_pipes, .ref q_t_pipeLitres, .ref q_t_thingAtEnd, .ref q_t_portAtEnd, .ref q_t_bendAtEnd, .ref q_t_inPipes])), (q_t_kind, .inl (cI, 40, .inl f_t_kind)), (q_t_position, .inl (cI, 40, .inl f_t_position))]) A
set_option maxHeartbeats 4000000 in
set_option maxRecDepth 100000 in
theorem c_Pl_passes (l : Launch) (dC : Nat → ClassId) (dI : Nat → Nat → Nat) (cI cL cB : ClassId) (q_t : Nat) (q_t_kind : Nat) (q_t_position : Nat) (q_t_told : Nat) (q_t_capacity : Nat) (q_t_amount : Nat) (q_t_liquid : Nat) (q_t_portsTaken : Nat) (q_t_endAtPort : Nat) (q_t_pipeLitres : Nat) (q_t_thingAtEnd : Nat) (q_t_portAtEnd : Nat) (q_t_bendAtEnd : Nat) (q_t_inPipes : Nat) (sz : Nat) (v_t_things : Int32) (v_t_pipes : Int32) (f_t_kind : (Nat → Int32)) (f_t_position : (Nat → Int32)) (x1 : Int32) (x2 : Int32) (x3 : Int32) (P : Int32 → Prop) (hw : wp_Pl_passes f_t_kind f_t_position x1 x2 x3 P) : Met l y_Pl_passes w_Pl_passes rm_Pl_passes (va_Pc [.ref q_t, .int x1, .int x2, .int x3] (fun U => U.heap.size = sz ∧ va_P (dC, dI) classes [(q_t, .inr (1, [.int v_t_things, .ref q_t_kind, .ref q_t_position, .ref q_t_told, .ref q_t_capacity, .ref q_t_amount, .ref q_t_liquid, .ref q_t_portsTaken, .ref q_t_endAtPort, .int v_t_pipes, .ref q_t_pipeLitres, .ref q_t_thingAtEnd, .ref q_t_portAtEnd, .ref q_t_bendAtEnd, .ref q_t_inPipes])), (q_t_kind, .inl (cI, 40, .inl f_t_kind)), (q_t_position, .inl (cI, 40, .inl f_t_position))] U.heap ∧ va_K (dC, dI) classes [(cI, .int), (cL, .long), (cB, .byte)] U ∧ va_D (fun _ => True) [(q_t, .inr (1, [.int v_t_things, .ref q_t_kind, .ref q_t_position, .ref q_t_told, .ref q_t_capacity, .ref q_t_amount, .ref q_t_liquid, .ref q_t_portsTaken, .ref q_t_endAtPort, .int v_t_pipes, .ref q_t_pipeLitres, .ref q_t_thingAtEnd, .ref q_t_portAtEnd, .ref q_t_bendAtEnd, .ref q_t_inPipes])), (q_t_kind, .inl (cI, 40, .inl f_t_kind)), (q_t_position, .inl (cI, 40, .inl f_t_position))])) (Q_Pl_passes dC dI cI cL cB q_t q_t_kind q_t_position q_t_told q_t_capacity q_t_amount q_t_liquid q_t_portsTaken q_t_endAtPort q_t_pipeLitres q_t_thingAtEnd q_t_portAtEnd q_t_bendAtEnd q_t_inPipes v_t_things v_t_pipes f_t_kind f_t_position x1 x2 x3 P (va_A [(q_t, .inr (1, [.int v_t_things, .ref q_t_kind, .ref q_t_position, .ref q_t_told, .ref q_t_capacity, .ref q_t_amount, .ref q_t_liquid, .ref q_t_portsTaken, .ref q_t_endAtPort, .int v_t_pipes, .ref q_t_pipeLitres, .ref q_t_thingAtEnd, .ref q_t_portAtEnd, .ref q_t_bendAtEnd, .ref q_t_inPipes])), (q_t_kind, .inl (cI, 40, .inl f_t_kind)), (q_t_position, .inl (cI, 40, .inl f_t_position))] sz)) 0 0 (va_A [(q_t, .inr (1, [.int v_t_things, .ref q_t_kind, .ref q_t_position, .ref q_t_told, .ref q_t_capacity, .ref q_t_amount, .ref q_t_liquid, .ref q_t_portsTaken, .ref q_t_endAtPort, .int v_t_pipes, .ref q_t_pipeLitres, .ref q_t_thingAtEnd, .ref q_t_portAtEnd, .ref q_t_bendAtEnd, .ref q_t_inPipes])), (q_t_kind, .inl (cI, 40, .inl f_t_kind)), (q_t_position, .inl (cI, 40, .inl f_t_position))] sz) := by
  refine Met.ofW (cc := b_Pl_passes) (maxL := 5) (ret := (some .boolean)) (by decide) rfl ?_
  intro p e s m args below meth c s₁ B hml hv
  obtain ⟨ha, hsz, hP, hK, hD0⟩ := hv
  have hx := B.exec
  have hb := B.bytes
  have hr := B.returns
  have hts0 := atoms_spec (ws := w_Pl_passes) B.pre
  have hts : ∀ w ∈ tb, w.before args s = true := fun w h => hts0 w (List.mem_cons_of_mem _ h)
  have hown : s.vm.findClass R_Pl = some m.cls := findClass_of_methodNamed B.named
  have hlocks := B.notSynchronized
  subst hsz
  have hD := hD0.self (sz := s.heap.size)
  generalize hAe : va_A [(q_t, .inr (1, [.int v_t_things, .ref q_t_kind, .ref q_t_position, .ref q_t_told, .ref q_t_capacity, .ref q_t_amount, .ref q_t_liquid, .ref q_t_portsTaken, .ref q_t_endAtPort, .int v_t_pipes, .ref q_t_pipeLitres, .ref q_t_thingAtEnd, .ref q_t_portAtEnd, .ref q_t_bendAtEnd, .ref q_t_inPipes])), (q_t_kind, .inl (cI, 40, .inl f_t_kind)), (q_t_position, .inl (cI, 40, .inl f_t_position))] s.heap.size = A at hD ⊢
  have hA : ∀ q : Nat, s.heap.size ≤ q → A q := fun q h => by rw [← hAe]; exact Or.inr h
  have hS : va_S A s.heap s.heap [] := va_S.rf
  have hP : va_P (dC, dI) classes [(q_t, .inr (1, [.int v_t_things, .ref q_t_kind, .ref q_t_position, .ref q_t_told, .ref q_t_capacity, .ref q_t_amount, .ref q_t_liquid, .ref q_t_portsTaken, .ref q_t_endAtPort, .int v_t_pipes, .ref q_t_pipeLitres, .ref q_t_thingAtEnd, .ref q_t_portAtEnd, .ref q_t_bendAtEnd, .ref q_t_inPipes])), (q_t_kind, .inl (cI, 40, .inl f_t_kind)), (q_t_position, .inl (cI, 40, .inl f_t_position))] s.heap := hP
  have hl := lv_entry [.ref q_t, .int x1, .int x2, .int x3] (n := 5) (Nat.le_of_ble_eq_true rfl)
  have he9 : entryFrame m args 5 = F0 m 0 ((lg_sl [.ref q_t, .int x1, .int x2, .int x3] ++ List.replicate (5 - (lg_sl [.ref q_t, .int x1, .int x2, .int x3]).length) Slot.unset).toArray) [] := by rw [ha]; exact lg_entry_eq _ _ _
  rw [he9]
  clear he9
  generalize (lg_sl [.ref q_t, .int x1, .int x2, .int x3] ++ List.replicate (5 - (lg_sl [.ref q_t, .int x1, .int x2, .int x3]).length) Slot.unset).toArray = ls at hl ⊢
  have hl : lv_has ls 5 [(0, .ref q_t), (1, .int x1), (2, .int x2), (3, .int x3)] := hl
  unfold wp_Pl_passes at hw
  refine lv_iload_n hx hb d_Pl_passes_0 rfl (lv_at hl 2 rfl) ?_
  refine lv_iload_n hx hb d_Pl_passes_1 rfl (lv_at hl 3 rfl) ?_
  refine lv_icmp_ne (tgt := 7) hx hb d_Pl_passes_2 (by decide) (fun c2 => ?_) (fun c2 => ?_)
  · replace hw := hw.1 c2
    refine lv_aload_n hx hb d_Pl_passes_7 rfl (lv_at hl 0 rfl) ?_
    refine va_get (D := (dC, dI)) (ci := 1) (v := .ref q_t_position) (C := R_Pl) (T := F_Pl) (N := 15) hx hb hts i_Pl hown hK hP 0 rfl rfl 2 (by decide) (hts (Cond.fieldLink R_Pl 15 "PlantGraph$Plant" "position" "[I") kw15_08c6805) (fun _ h9 => h9) rfl d_Pl_passes_8 ?_
    refine lv_iload_n hx hb d_Pl_passes_11 rfl (lv_at hl 1 rfl) ?_
    refine va_iald hx hb hK hP 2 0 rfl rfl hw.1 d_Pl_passes_12 ?_
    replace hw := hw.2
    refine lv_istore (lv' := [(4, .int (f_t_position x1.toNatClampNeg)), (0, .ref q_t), (1, .int x1), (2, .int x2), (3, .int x3)]) hx hb d_Pl_passes_13 hl (by decide) rfl (fun ls hl => ?_)
    refine lv_aload_n hx hb d_Pl_passes_15 rfl (lv_at hl 1 rfl) ?_
    refine va_get (D := (dC, dI)) (ci := 1) (v := .ref q_t_kind) (C := R_Pl) (T := F_Pl) (N := 15) hx hb hts i_Pl hown hK hP 0 rfl rfl 1 (by decide) (hts (Cond.fieldLink R_Pl 9 "PlantGraph$Plant" "kind" "[I") kw15_c0ecaf9) (fun _ h9 => h9) rfl d_Pl_passes_16 ?_
    refine lv_iload_n hx hb d_Pl_passes_19 rfl (lv_at hl 2 rfl) ?_
    refine va_iald hx hb hK hP 1 0 rfl rfl hw.1 d_Pl_passes_20 ?_
    replace hw := hw.2
    by_cases c21_0 : (f_t_kind x1.toNatClampNeg) = 0
    · replace hw := hw.1 c21_0
      refine lv_tableIn (tgt := 76) hx hb d_Pl_passes_21 (by rw [c21_0]; decide) (by rw [c21_0]; decide) (by rw [c21_0]; rfl) (by decide) ?_
      refine lv_iload hx hb d_Pl_passes_76 (lv_at hl 0 rfl) ?_
      refine lv_iconst (v := 1) hx hb d_Pl_passes_78 (by decide) ?_
      refine lv_icmp_ne (tgt := 86) hx hb d_Pl_passes_79 (by decide) (fun c79 => ?_) (fun c79 => ?_)
      · replace hw := hw.1 c79
        refine lv_iconst (v := 0) hx hb d_Pl_passes_86 (by decide) ?_
        exact W.zret (v := 0) hx hb hr (by decide) (fun t ht hW => ⟨⟨0, (), rfl, hw, by rw [ht]; exact hP, va_K.moved hW.alike hK, hD⟩, hS.F ht⟩) hS.2.2 d_Pl_passes_87
      · replace hw := hw.2 c79
        refine lv_iconst (v := 1) hx hb d_Pl_passes_82 (by decide) ?_
        refine lv_goto (tgt := 87) hx hb d_Pl_passes_83 (by decide) ?_
        exact W.zret (v := 1) hx hb hr (by decide) (fun t ht hW => ⟨⟨1, (), rfl, hw, by rw [ht]; exact hP, va_K.moved hW.alike hK, hD⟩, hS.F ht⟩) hS.2.2 d_Pl_passes_87
    replace hw := hw.2 c21_0
    by_cases c21_1 : (f_t_kind x1.toNatClampNeg) = 1
    · replace hw := hw.1 c21_1
      refine lv_tableIn (tgt := 88) hx hb d_Pl_passes_21 (by rw [c21_1]; decide) (by rw [c21_1]; decide) (by rw [c21_1]; rfl) (by decide) ?_
      refine lv_iload hx hb d_Pl_passes_88 (lv_at hl 0 rfl) ?_
      refine lv_if_ne (tgt := 103) hx hb d_Pl_passes_90 (by decide) (fun c90 => ?_) (fun c90 => ?_)
      · replace hw := hw.1 c90
        refine lv_iload hx hb d_Pl_passes_103 (lv_at hl 0 rfl) ?_
        refine lv_iconst (v := 1) hx hb d_Pl_passes_105 (by decide) ?_
        refine lv_icmp_ne (tgt := 123) hx hb d_Pl_passes_106 (by decide) (fun c106 => ?_) (fun c106 => ?_)
        · replace hw := hw.1 c106
          refine lv_iconst (v := 0) hx hb d_Pl_passes_123 (by decide) ?_
          exact W.zret (v := 0) hx hb hr (by decide) (fun t ht hW => ⟨⟨0, (), rfl, hw, by rw [ht]; exact hP, va_K.moved hW.alike hK, hD⟩, hS.F ht⟩) hS.2.2 d_Pl_passes_124
        · replace hw := hw.2 c106
          refine lv_iload_n hx hb d_Pl_passes_109 rfl (lv_at hl 3 rfl) ?_
          refine lv_iload_n hx hb d_Pl_passes_110 rfl (lv_at hl 4 rfl) ?_
          refine lv_iconst (v := 0) hx hb d_Pl_passes_111 (by decide) ?_
          refine lv_iconst (v := 2) hx hb d_Pl_passes_112 (by decide) ?_
          have hPc := hP.sub (ws' := []) [] rfl
          have hDc := hD.sub (ws' := []) [] (by decide) rfl
          have hFc := va_free (wc := []) hD hS hA [] rfl
          refine va_calli (va_runS (As := [.int x2, .int x3, .int 0, .int 2]) (rest := []) ⟨hx, hb, hml, hown, hts⟩ (c_Pl_isPair l dC dI cI cL cB  s.heap.size  x2 x3 0 2 _ hw) (my_cwS 4 hts kw15_5321c83 kw15_199fc92 kw15_cd65af8 kw15_4172ee0 rfl rfl (by decide +kernel) ⟨Nat.le_of_ble_eq_true rfl, Nat.le_of_ble_eq_true rfl⟩) ⟨fun a U g mk q => by obtain ⟨q0, q1, qP, qK, qD⟩ := q; exact ⟨q0, q1, qP, va_K.moved (u := U) (U := U.calling g mk a) (Vm.Alike.refl U.vm) qK, qD⟩, fun U hU hW => ⟨rfl, by rw [hU], by rw [hU]; exact hPc, va_K.moved hW.alike hK, hDc.weaken (fun _ _ _ _ => trivial)⟩⟩ rfl rfl hl.1 rfl (lv_room (Nat.le_of_ble_eq_true rfl)) d_Pl_passes_113 ⟨Nat.zero_le _, Nat.zero_le _⟩) hS (fun q _ h => hFc q h) hFc (fun r113 u t H locs ht hvm hw hB hz1 hk1 hS => ?_)
          obtain ⟨hP1, hK1, hD1⟩ := hB
          rw [ht] at hP1
          obtain ⟨hP, hD⟩ := va_join (wr := [(q_t, .inr (1, [.int v_t_things, .ref q_t_kind, .ref q_t_position, .ref q_t_told, .ref q_t_capacity, .ref q_t_amount, .ref q_t_liquid, .ref q_t_portsTaken, .ref q_t_endAtPort, .int v_t_pipes, .ref q_t_pipeLitres, .ref q_t_thingAtEnd, .ref q_t_portAtEnd, .ref q_t_bendAtEnd, .ref q_t_inPipes])), (q_t_kind, .inl (cI, 40, .inl f_t_kind)), (q_t_position, .inl (cI, 40, .inl f_t_position))]) (w1 := []) hP hD [] [0, 1, 2] rfl rfl (by decide) (by decide) hk1 hFc hP1 hD1
          have hP : va_P (dC, dI) classes [(q_t, .inr (1, [.int v_t_things, .ref q_t_kind, .ref q_t_position, .ref q_t_told, .ref q_t_capacity, .ref q_t_amount, .ref q_t_liquid, .ref q_t_portsTaken, .ref q_t_endAtPort, .int v_t_pipes, .ref q_t_pipeLitres, .ref q_t_thingAtEnd, .ref q_t_portAtEnd, .ref q_t_bendAtEnd, .ref q_t_inPipes])), (q_t_kind, .inl (cI, 40, .inl f_t_kind)), (q_t_position, .inl (cI, 40, .inl f_t_position))] H := hP.sub (ws' := [(q_t, .inr (1, [.int v_t_things, .ref q_t_kind, .ref q_t_position, .ref q_t_told, .ref q_t_capacity, .ref q_t_amount, .ref q_t_liquid, .ref q_t_portsTaken, .ref q_t_endAtPort, .int v_t_pipes, .ref q_t_pipeLitres, .ref q_t_thingAtEnd, .ref q_t_portAtEnd, .ref q_t_bendAtEnd, .ref q_t_inPipes])), (q_t_kind, .inl (cI, 40, .inl f_t_kind)), (q_t_position, .inl (cI, 40, .inl f_t_position))]) [0, 1, 2] rfl
          have hD : va_D A [(q_t, .inr (1, [.int v_t_things, .ref q_t_kind, .ref q_t_position, .ref q_t_told, .ref q_t_capacity, .ref q_t_amount, .ref q_t_liquid, .ref q_t_portsTaken, .ref q_t_endAtPort, .int v_t_pipes, .ref q_t_pipeLitres, .ref q_t_thingAtEnd, .ref q_t_portAtEnd, .ref q_t_bendAtEnd, .ref q_t_inPipes])), (q_t_kind, .inl (cI, 40, .inl f_t_kind)), (q_t_position, .inl (cI, 40, .inl f_t_position))] := hD.sub (ws' := [(q_t, .inr (1, [.int v_t_things, .ref q_t_kind, .ref q_t_position, .ref q_t_told, .ref q_t_capacity, .ref q_t_amount, .ref q_t_liquid, .ref q_t_portsTaken, .ref q_t_endAtPort, .int v_t_pipes, .ref q_t_pipeLitres, .ref q_t_thingAtEnd, .ref q_t_portAtEnd, .ref q_t_bendAtEnd, .ref q_t_inPipes])), (q_t_kind, .inl (cI, 40, .inl f_t_kind)), (q_t_position, .inl (cI, 40, .inl f_t_position))]) [0, 1, 2] (by decide) rfl
          refine lv_if_eq (tgt := 123) hx hb d_Pl_passes_116 (by decide) (fun c116 => ?_) (fun c116 => ?_)
          · replace hw := hw.1 c116
            refine lv_iconst (v := 0) hx hb d_Pl_passes_123 (by decide) ?_
            exact W.zret (v := 0) hx hb hr (by decide) (fun t ht hW => ⟨⟨0, (), rfl, hw, by rw [ht]; exact hP, va_K.moved hW.alike hK, hD⟩, hS.F ht⟩) hS.2.2 d_Pl_passes_124
          · replace hw := hw.2 c116
            refine lv_iconst (v := 1) hx hb d_Pl_passes_119 (by decide) ?_
            refine lv_goto (tgt := 124) hx hb d_Pl_passes_120 (by decide) ?_
            exact W.zret (v := 1) hx hb hr (by decide) (fun t ht hW => ⟨⟨1, (), rfl, hw, by rw [ht]; exact hP, va_K.moved hW.alike hK, hD⟩, hS.F ht⟩) hS.2.2 d_Pl_passes_124
      · replace hw := hw.2 c90
        refine lv_iload_n hx hb d_Pl_passes_93 rfl (lv_at hl 3 rfl) ?_
        refine lv_iload_n hx hb d_Pl_passes_94 rfl (lv_at hl 4 rfl) ?_
        refine lv_iconst (v := 0) hx hb d_Pl_passes_95 (by decide) ?_
        refine lv_iconst (v := 1) hx hb d_Pl_passes_96 (by decide) ?_
        have hPc := hP.sub (ws' := []) [] rfl
        have hDc := hD.sub (ws' := []) [] (by decide) rfl
        have hFc := va_free (wc := []) hD hS hA [] rfl
        refine va_calli (va_runS (As := [.int x2, .int x3, .int 0, .int 1]) (rest := []) ⟨hx, hb, hml, hown, hts⟩ (c_Pl_isPair l dC dI cI cL cB  s.heap.size  x2 x3 0 1 _ hw) (my_cwS 4 hts kw15_5321c83 kw15_199fc92 kw15_cd65af8 kw15_4172ee0 rfl rfl (by decide +kernel) ⟨Nat.le_of_ble_eq_true rfl, Nat.le_of_ble_eq_true rfl⟩) ⟨fun a U g mk q => by obtain ⟨q0, q1, qP, qK, qD⟩ := q; exact ⟨q0, q1, qP, va_K.moved (u := U) (U := U.calling g mk a) (Vm.Alike.refl U.vm) qK, qD⟩, fun U hU hW => ⟨rfl, by rw [hU], by rw [hU]; exact hPc, va_K.moved hW.alike hK, hDc.weaken (fun _ _ _ _ => trivial)⟩⟩ rfl rfl hl.1 rfl (lv_room (Nat.le_of_ble_eq_true rfl)) d_Pl_passes_97 ⟨Nat.zero_le _, Nat.zero_le _⟩) hS (fun q _ h => hFc q h) hFc (fun r97 u t H locs ht hvm hw hB hz1 hk1 hS => ?_)
        obtain ⟨hP1, hK1, hD1⟩ := hB
        rw [ht] at hP1
        obtain ⟨hP, hD⟩ := va_join (wr := [(q_t, .inr (1, [.int v_t_things, .ref q_t_kind, .ref q_t_position, .ref q_t_told, .ref q_t_capacity, .ref q_t_amount, .ref q_t_liquid, .ref q_t_portsTaken, .ref q_t_endAtPort, .int v_t_pipes, .ref q_t_pipeLitres, .ref q_t_thingAtEnd, .ref q_t_portAtEnd, .ref q_t_bendAtEnd, .ref q_t_inPipes])), (q_t_kind, .inl (cI, 40, .inl f_t_kind)), (q_t_position, .inl (cI, 40, .inl f_t_position))]) (w1 := []) hP hD [] [0, 1, 2] rfl rfl (by decide) (by decide) hk1 hFc hP1 hD1
        have hP : va_P (dC, dI) classes [(q_t, .inr (1, [.int v_t_things, .ref q_t_kind, .ref q_t_position, .ref q_t_told, .ref q_t_capacity, .ref q_t_amount, .ref q_t_liquid, .ref q_t_portsTaken, .ref q_t_endAtPort, .int v_t_pipes, .ref q_t_pipeLitres, .ref q_t_thingAtEnd, .ref q_t_portAtEnd, .ref q_t_bendAtEnd, .ref q_t_inPipes])), (q_t_kind, .inl (cI, 40, .inl f_t_kind)), (q_t_position, .inl (cI, 40, .inl f_t_position))] H := hP.sub (ws' := [(q_t, .inr (1, [.int v_t_things, .ref q_t_kind, .ref q_t_position, .ref q_t_told, .ref q_t_capacity, .ref q_t_amount, .ref q_t_liquid, .ref q_t_portsTaken, .ref q_t_endAtPort, .int v_t_pipes, .ref q_t_pipeLitres, .ref q_t_thingAtEnd, .ref q_t_portAtEnd, .ref q_t_bendAtEnd, .ref q_t_inPipes])), (q_t_kind, .inl (cI, 40, .inl f_t_kind)), (q_t_position, .inl (cI, 40, .inl f_t_position))]) [0, 1, 2] rfl
        have hD : va_D A [(q_t, .inr (1, [.int v_t_things, .ref q_t_kind, .ref q_t_position, .ref q_t_told, .ref q_t_capacity, .ref q_t_amount, .ref q_t_liquid, .ref q_t_portsTaken, .ref q_t_endAtPort, .int v_t_pipes, .ref q_t_pipeLitres, .ref q_t_thingAtEnd, .ref q_t_portAtEnd, .ref q_t_bendAtEnd, .ref q_t_inPipes])), (q_t_kind, .inl (cI, 40, .inl f_t_kind)), (q_t_position, .inl (cI, 40, .inl f_t_position))] := hD.sub (ws' := [(q_t, .inr (1, [.int v_t_things, .ref q_t_kind, .ref q_t_position, .ref q_t_told, .ref q_t_capacity, .ref q_t_amount, .ref q_t_liquid, .ref q_t_portsTaken, .ref q_t_endAtPort, .int v_t_pipes, .ref q_t_pipeLitres, .ref q_t_thingAtEnd, .ref q_t_portAtEnd, .ref q_t_bendAtEnd, .ref q_t_inPipes])), (q_t_kind, .inl (cI, 40, .inl f_t_kind)), (q_t_position, .inl (cI, 40, .inl f_t_position))]) [0, 1, 2] (by decide) rfl
        refine lv_if_ne (tgt := 119) hx hb d_Pl_passes_100 (by decide) (fun c100 => ?_) (fun c100 => ?_)
        · replace hw := hw.1 c100
          refine lv_iconst (v := 1) hx hb d_Pl_passes_119 (by decide) ?_
          refine lv_goto (tgt := 124) hx hb d_Pl_passes_120 (by decide) ?_
          exact W.zret (v := 1) hx hb hr (by decide) (fun t ht hW => ⟨⟨1, (), rfl, hw, by rw [ht]; exact hP, va_K.moved hW.alike hK, hD⟩, hS.F ht⟩) hS.2.2 d_Pl_passes_124
        · replace hw := hw.2 c100
          refine lv_iload hx hb d_Pl_passes_103 (lv_at hl 0 rfl) ?_
          refine lv_iconst (v := 1) hx hb d_Pl_passes_105 (by decide) ?_
          refine lv_icmp_ne (tgt := 123) hx hb d_Pl_passes_106 (by decide) (fun c106 => ?_) (fun c106 => ?_)
          · replace hw := hw.1 c106
            refine lv_iconst (v := 0) hx hb d_Pl_passes_123 (by decide) ?_
            exact W.zret (v := 0) hx hb hr (by decide) (fun t ht hW => ⟨⟨0, (), rfl, hw, by rw [ht]; exact hP, va_K.moved hW.alike hK, hD⟩, hS.F ht⟩) hS.2.2 d_Pl_passes_124
          · replace hw := hw.2 c106
            refine lv_iload_n hx hb d_Pl_passes_109 rfl (lv_at hl 3 rfl) ?_
            refine lv_iload_n hx hb d_Pl_passes_110 rfl (lv_at hl 4 rfl) ?_
            refine lv_iconst (v := 0) hx hb d_Pl_passes_111 (by decide) ?_
            refine lv_iconst (v := 2) hx hb d_Pl_passes_112 (by decide) ?_
            have hPc := hP.sub (ws' := []) [] rfl
            have hDc := hD.sub (ws' := []) [] (by decide) rfl
            have hFc := va_free (wc := []) hD hS hA [] rfl
            refine va_calli (va_runS (As := [.int x2, .int x3, .int 0, .int 2]) (rest := []) ⟨hx, hb, hml, hown, hts⟩ (c_Pl_isPair l dC dI cI cL cB  H.size  x2 x3 0 2 _ hw) (my_cwS 4 hts kw15_5321c83 kw15_199fc92 kw15_cd65af8 kw15_4172ee0 rfl rfl (by decide +kernel) ⟨Nat.le_of_ble_eq_true rfl, Nat.le_of_ble_eq_true rfl⟩) ⟨fun a U g mk q => by obtain ⟨q0, q1, qP, qK, qD⟩ := q; exact ⟨q0, q1, qP, va_K.moved (u := U) (U := U.calling g mk a) (Vm.Alike.refl U.vm) qK, qD⟩, fun U hU hW => ⟨rfl, by rw [hU], by rw [hU]; exact hPc, va_K.moved hW.alike hK, hDc.weaken (fun _ _ _ _ => trivial)⟩⟩ rfl rfl hl.1 rfl (lv_room (Nat.le_of_ble_eq_true rfl)) d_Pl_passes_113 ⟨Nat.zero_le _, Nat.zero_le _⟩) hS (fun q _ h => hFc q h) hFc (fun r113 u t H locs ht hvm hw hB hz1 hk1 hS => ?_)
            obtain ⟨hP1, hK1, hD1⟩ := hB
            rw [ht] at hP1
            obtain ⟨hP, hD⟩ := va_join (wr := [(q_t, .inr (1, [.int v_t_things, .ref q_t_kind, .ref q_t_position, .ref q_t_told, .ref q_t_capacity, .ref q_t_amount, .ref q_t_liquid, .ref q_t_portsTaken, .ref q_t_endAtPort, .int v_t_pipes, .ref q_t_pipeLitres, .ref q_t_thingAtEnd, .ref q_t_portAtEnd, .ref q_t_bendAtEnd, .ref q_t_inPipes])), (q_t_kind, .inl (cI, 40, .inl f_t_kind)), (q_t_position, .inl (cI, 40, .inl f_t_position))]) (w1 := []) hP hD [] [0, 1, 2] rfl rfl (by decide) (by decide) hk1 hFc hP1 hD1
            have hP : va_P (dC, dI) classes [(q_t, .inr (1, [.int v_t_things, .ref q_t_kind, .ref q_t_position, .ref q_t_told, .ref q_t_capacity, .ref q_t_amount, .ref q_t_liquid, .ref q_t_portsTaken, .ref q_t_endAtPort, .int v_t_pipes, .ref q_t_pipeLitres, .ref q_t_thingAtEnd, .ref q_t_portAtEnd, .ref q_t_bendAtEnd, .ref q_t_inPipes])), (q_t_kind, .inl (cI, 40, .inl f_t_kind)), (q_t_position, .inl (cI, 40, .inl f_t_position))] H := hP.sub (ws' := [(q_t, .inr (1, [.int v_t_things, .ref q_t_kind, .ref q_t_position, .ref q_t_told, .ref q_t_capacity, .ref q_t_amount, .ref q_t_liquid, .ref q_t_portsTaken, .ref q_t_endAtPort, .int v_t_pipes, .ref q_t_pipeLitres, .ref q_t_thingAtEnd, .ref q_t_portAtEnd, .ref q_t_bendAtEnd, .ref q_t_inPipes])), (q_t_kind, .inl (cI, 40, .inl f_t_kind)), (q_t_position, .inl (cI, 40, .inl f_t_position))]) [0, 1, 2] rfl
            have hD : va_D A [(q_t, .inr (1, [.int v_t_things, .ref q_t_kind, .ref q_t_position, .ref q_t_told, .ref q_t_capacity, .ref q_t_amount, .ref q_t_liquid, .ref q_t_portsTaken, .ref q_t_endAtPort, .int v_t_pipes, .ref q_t_pipeLitres, .ref q_t_thingAtEnd, .ref q_t_portAtEnd, .ref q_t_bendAtEnd, .ref q_t_inPipes])), (q_t_kind, .inl (cI, 40, .inl f_t_kind)), (q_t_position, .inl (cI, 40, .inl f_t_position))] := hD.sub (ws' := [(q_t, .inr (1, [.int v_t_things, .ref q_t_kind, .ref q_t_position, .ref q_t_told, .ref q_t_capacity, .ref q_t_amount, .ref q_t_liquid, .ref q_t_portsTaken, .ref q_t_endAtPort, .int v_t_pipes, .ref q_t_pipeLitres, .ref q_t_thingAtEnd, .ref q_t_portAtEnd, .ref q_t_bendAtEnd, .ref q_t_inPipes])), (q_t_kind, .inl (cI, 40, .inl f_t_kind)), (q_t_position, .inl (cI, 40, .inl f_t_position))]) [0, 1, 2] (by decide) rfl
            refine lv_if_eq (tgt := 123) hx hb d_Pl_passes_116 (by decide) (fun c116 => ?_) (fun c116 => ?_)
            · replace hw := hw.1 c116
              refine lv_iconst (v := 0) hx hb d_Pl_passes_123 (by decide) ?_
              exact W.zret (v := 0) hx hb hr (by decide) (fun t ht hW => ⟨⟨0, (), rfl, hw, by rw [ht]; exact hP, va_K.moved hW.alike hK, hD⟩, hS.F ht⟩) hS.2.2 d_Pl_passes_124
            · replace hw := hw.2 c116
              refine lv_iconst (v := 1) hx hb d_Pl_passes_119 (by decide) ?_
              refine lv_goto (tgt := 124) hx hb d_Pl_passes_120 (by decide) ?_
              exact W.zret (v := 1) hx hb hr (by decide) (fun t ht hW => ⟨⟨1, (), rfl, hw, by rw [ht]; exact hP, va_K.moved hW.alike hK, hD⟩, hS.F ht⟩) hS.2.2 d_Pl_passes_124
    replace hw := hw.2 c21_1
    by_cases c21_2 : (f_t_kind x1.toNatClampNeg) = 2
    · replace hw := hw.1 c21_2
      refine lv_tableIn (tgt := 125) hx hb d_Pl_passes_21 (by rw [c21_2]; decide) (by rw [c21_2]; decide) (by rw [c21_2]; rfl) (by decide) ?_
      refine lv_iload hx hb d_Pl_passes_125 (lv_at hl 0 rfl) ?_
      refine lv_if_eq (tgt := 178) hx hb d_Pl_passes_127 (by decide) (fun c127 => ?_) (fun c127 => ?_)
      · replace hw := hw.1 c127
        refine lv_iconst (v := 1) hx hb d_Pl_passes_178 (by decide) ?_
        refine lv_goto (tgt := 183) hx hb d_Pl_passes_179 (by decide) ?_
        exact W.zret (v := 1) hx hb hr (by decide) (fun t ht hW => ⟨⟨1, (), rfl, hw, by rw [ht]; exact hP, va_K.moved hW.alike hK, hD⟩, hS.F ht⟩) hS.2.2 d_Pl_passes_183
      · replace hw := hw.2 c127
        refine lv_iload hx hb d_Pl_passes_130 (lv_at hl 0 rfl) ?_
        refine lv_iconst (v := 1) hx hb d_Pl_passes_132 (by decide) ?_
        refine lv_icmp_ne (tgt := 146) hx hb d_Pl_passes_133 (by decide) (fun c133 => ?_) (fun c133 => ?_)
        · replace hw := hw.1 c133
          refine lv_iload hx hb d_Pl_passes_146 (lv_at hl 0 rfl) ?_
          refine lv_iconst (v := 2) hx hb d_Pl_passes_148 (by decide) ?_
          refine lv_icmp_ne (tgt := 162) hx hb d_Pl_passes_149 (by decide) (fun c149 => ?_) (fun c149 => ?_)
          · replace hw := hw.1 c149
            refine lv_iload hx hb d_Pl_passes_162 (lv_at hl 0 rfl) ?_
            refine lv_iconst (v := 3) hx hb d_Pl_passes_164 (by decide) ?_
            refine lv_icmp_ne (tgt := 182) hx hb d_Pl_passes_165 (by decide) (fun c165 => ?_) (fun c165 => ?_)
            · replace hw := hw.1 c165
              refine lv_iconst (v := 0) hx hb d_Pl_passes_182 (by decide) ?_
              exact W.zret (v := 0) hx hb hr (by decide) (fun t ht hW => ⟨⟨0, (), rfl, hw, by rw [ht]; exact hP, va_K.moved hW.alike hK, hD⟩, hS.F ht⟩) hS.2.2 d_Pl_passes_183
            · replace hw := hw.2 c165
              refine lv_iload_n hx hb d_Pl_passes_168 rfl (lv_at hl 3 rfl) ?_
              refine lv_iload_n hx hb d_Pl_passes_169 rfl (lv_at hl 4 rfl) ?_
              refine lv_iconst (v := 1) hx hb d_Pl_passes_170 (by decide) ?_
              refine lv_iconst (v := 2) hx hb d_Pl_passes_171 (by decide) ?_
              have hPc := hP.sub (ws' := []) [] rfl
              have hDc := hD.sub (ws' := []) [] (by decide) rfl
              have hFc := va_free (wc := []) hD hS hA [] rfl
              refine va_calli (va_runS (As := [.int x2, .int x3, .int 1, .int 2]) (rest := []) ⟨hx, hb, hml, hown, hts⟩ (c_Pl_isPair l dC dI cI cL cB  s.heap.size  x2 x3 1 2 _ hw) (my_cwS 4 hts kw15_5321c83 kw15_199fc92 kw15_cd65af8 kw15_4172ee0 rfl rfl (by decide +kernel) ⟨Nat.le_of_ble_eq_true rfl, Nat.le_of_ble_eq_true rfl⟩) ⟨fun a U g mk q => by obtain ⟨q0, q1, qP, qK, qD⟩ := q; exact ⟨q0, q1, qP, va_K.moved (u := U) (U := U.calling g mk a) (Vm.Alike.refl U.vm) qK, qD⟩, fun U hU hW => ⟨rfl, by rw [hU], by rw [hU]; exact hPc, va_K.moved hW.alike hK, hDc.weaken (fun _ _ _ _ => trivial)⟩⟩ rfl rfl hl.1 rfl (lv_room (Nat.le_of_ble_eq_true rfl)) d_Pl_passes_172 ⟨Nat.zero_le _, Nat.zero_le _⟩) hS (fun q _ h => hFc q h) hFc (fun r172 u t H locs ht hvm hw hB hz1 hk1 hS => ?_)
              obtain ⟨hP1, hK1, hD1⟩ := hB
              rw [ht] at hP1
              obtain ⟨hP, hD⟩ := va_join (wr := [(q_t, .inr (1, [.int v_t_things, .ref q_t_kind, .ref q_t_position, .ref q_t_told, .ref q_t_capacity, .ref q_t_amount, .ref q_t_liquid, .ref q_t_portsTaken, .ref q_t_endAtPort, .int v_t_pipes, .ref q_t_pipeLitres, .ref q_t_thingAtEnd, .ref q_t_portAtEnd, .ref q_t_bendAtEnd, .ref q_t_inPipes])), (q_t_kind, .inl (cI, 40, .inl f_t_kind)), (q_t_position, .inl (cI, 40, .inl f_t_position))]) (w1 := []) hP hD [] [0, 1, 2] rfl rfl (by decide) (by decide) hk1 hFc hP1 hD1
              have hP : va_P (dC, dI) classes [(q_t, .inr (1, [.int v_t_things, .ref q_t_kind, .ref q_t_position, .ref q_t_told, .ref q_t_capacity, .ref q_t_amount, .ref q_t_liquid, .ref q_t_portsTaken, .ref q_t_endAtPort, .int v_t_pipes, .ref q_t_pipeLitres, .ref q_t_thingAtEnd, .ref q_t_portAtEnd, .ref q_t_bendAtEnd, .ref q_t_inPipes])), (q_t_kind, .inl (cI, 40, .inl f_t_kind)), (q_t_position, .inl (cI, 40, .inl f_t_position))] H := hP.sub (ws' := [(q_t, .inr (1, [.int v_t_things, .ref q_t_kind, .ref q_t_position, .ref q_t_told, .ref q_t_capacity, .ref q_t_amount, .ref q_t_liquid, .ref q_t_portsTaken, .ref q_t_endAtPort, .int v_t_pipes, .ref q_t_pipeLitres, .ref q_t_thingAtEnd, .ref q_t_portAtEnd, .ref q_t_bendAtEnd, .ref q_t_inPipes])), (q_t_kind, .inl (cI, 40, .inl f_t_kind)), (q_t_position, .inl (cI, 40, .inl f_t_position))]) [0, 1, 2] rfl
              have hD : va_D A [(q_t, .inr (1, [.int v_t_things, .ref q_t_kind, .ref q_t_position, .ref q_t_told, .ref q_t_capacity, .ref q_t_amount, .ref q_t_liquid, .ref q_t_portsTaken, .ref q_t_endAtPort, .int v_t_pipes, .ref q_t_pipeLitres, .ref q_t_thingAtEnd, .ref q_t_portAtEnd, .ref q_t_bendAtEnd, .ref q_t_inPipes])), (q_t_kind, .inl (cI, 40, .inl f_t_kind)), (q_t_position, .inl (cI, 40, .inl f_t_position))] := hD.sub (ws' := [(q_t, .inr (1, [.int v_t_things, .ref q_t_kind, .ref q_t_position, .ref q_t_told, .ref q_t_capacity, .ref q_t_amount, .ref q_t_liquid, .ref q_t_portsTaken, .ref q_t_endAtPort, .int v_t_pipes, .ref q_t_pipeLitres, .ref q_t_thingAtEnd, .ref q_t_portAtEnd, .ref q_t_bendAtEnd, .ref q_t_inPipes])), (q_t_kind, .inl (cI, 40, .inl f_t_kind)), (q_t_position, .inl (cI, 40, .inl f_t_position))]) [0, 1, 2] (by decide) rfl
              refine lv_if_eq (tgt := 182) hx hb d_Pl_passes_175 (by decide) (fun c175 => ?_) (fun c175 => ?_)
              · replace hw := hw.1 c175
                refine lv_iconst (v := 0) hx hb d_Pl_passes_182 (by decide) ?_
                exact W.zret (v := 0) hx hb hr (by decide) (fun t ht hW => ⟨⟨0, (), rfl, hw, by rw [ht]; exact hP, va_K.moved hW.alike hK, hD⟩, hS.F ht⟩) hS.2.2 d_Pl_passes_183
              · replace hw := hw.2 c175
                refine lv_iconst (v := 1) hx hb d_Pl_passes_178 (by decide) ?_
                refine lv_goto (tgt := 183) hx hb d_Pl_passes_179 (by decide) ?_
                exact W.zret (v := 1) hx hb hr (by decide) (fun t ht hW => ⟨⟨1, (), rfl, hw, by rw [ht]; exact hP, va_K.moved hW.alike hK, hD⟩, hS.F ht⟩) hS.2.2 d_Pl_passes_183
          · replace hw := hw.2 c149
            refine lv_iload_n hx hb d_Pl_passes_152 rfl (lv_at hl 3 rfl) ?_
            refine lv_iload_n hx hb d_Pl_passes_153 rfl (lv_at hl 4 rfl) ?_
            refine lv_iconst (v := 0) hx hb d_Pl_passes_154 (by decide) ?_
            refine lv_iconst (v := 2) hx hb d_Pl_passes_155 (by decide) ?_
            have hPc := hP.sub (ws' := []) [] rfl
            have hDc := hD.sub (ws' := []) [] (by decide) rfl
            have hFc := va_free (wc := []) hD hS hA [] rfl
            refine va_calli (va_runS (As := [.int x2, .int x3, .int 0, .int 2]) (rest := []) ⟨hx, hb, hml, hown, hts⟩ (c_Pl_isPair l dC dI cI cL cB  s.heap.size  x2 x3 0 2 _ hw) (my_cwS 4 hts kw15_5321c83 kw15_199fc92 kw15_cd65af8 kw15_4172ee0 rfl rfl (by decide +kernel) ⟨Nat.le_of_ble_eq_true rfl, Nat.le_of_ble_eq_true rfl⟩) ⟨fun a U g mk q => by obtain ⟨q0, q1, qP, qK, qD⟩ := q; exact ⟨q0, q1, qP, va_K.moved (u := U) (U := U.calling g mk a) (Vm.Alike.refl U.vm) qK, qD⟩, fun U hU hW => ⟨rfl, by rw [hU], by rw [hU]; exact hPc, va_K.moved hW.alike hK, hDc.weaken (fun _ _ _ _ => trivial)⟩⟩ rfl rfl hl.1 rfl (lv_room (Nat.le_of_ble_eq_true rfl)) d_Pl_passes_156 ⟨Nat.zero_le _, Nat.zero_le _⟩) hS (fun q _ h => hFc q h) hFc (fun r156 u t H locs ht hvm hw hB hz1 hk1 hS => ?_)
            obtain ⟨hP1, hK1, hD1⟩ := hB
            rw [ht] at hP1
            obtain ⟨hP, hD⟩ := va_join (wr := [(q_t, .inr (1, [.int v_t_things, .ref q_t_kind, .ref q_t_position, .ref q_t_told, .ref q_t_capacity, .ref q_t_amount, .ref q_t_liquid, .ref q_t_portsTaken, .ref q_t_endAtPort, .int v_t_pipes, .ref q_t_pipeLitres, .ref q_t_thingAtEnd, .ref q_t_portAtEnd, .ref q_t_bendAtEnd, .ref q_t_inPipes])), (q_t_kind, .inl (cI, 40, .inl f_t_kind)), (q_t_position, .inl (cI, 40, .inl f_t_position))]) (w1 := []) hP hD [] [0, 1, 2] rfl rfl (by decide) (by decide) hk1 hFc hP1 hD1
            have hP : va_P (dC, dI) classes [(q_t, .inr (1, [.int v_t_things, .ref q_t_kind, .ref q_t_position, .ref q_t_told, .ref q_t_capacity, .ref q_t_amount, .ref q_t_liquid, .ref q_t_portsTaken, .ref q_t_endAtPort, .int v_t_pipes, .ref q_t_pipeLitres, .ref q_t_thingAtEnd, .ref q_t_portAtEnd, .ref q_t_bendAtEnd, .ref q_t_inPipes])), (q_t_kind, .inl (cI, 40, .inl f_t_kind)), (q_t_position, .inl (cI, 40, .inl f_t_position))] H := hP.sub (ws' := [(q_t, .inr (1, [.int v_t_things, .ref q_t_kind, .ref q_t_position, .ref q_t_told, .ref q_t_capacity, .ref q_t_amount, .ref q_t_liquid, .ref q_t_portsTaken, .ref q_t_endAtPort, .int v_t_pipes, .ref q_t_pipeLitres, .ref q_t_thingAtEnd, .ref q_t_portAtEnd, .ref q_t_bendAtEnd, .ref q_t_inPipes])), (q_t_kind, .inl (cI, 40, .inl f_t_kind)), (q_t_position, .inl (cI, 40, .inl f_t_position))]) [0, 1, 2] rfl
            have hD : va_D A [(q_t, .inr (1, [.int v_t_things, .ref q_t_kind, .ref q_t_position, .ref q_t_told, .ref q_t_capacity, .ref q_t_amount, .ref q_t_liquid, .ref q_t_portsTaken, .ref q_t_endAtPort, .int v_t_pipes, .ref q_t_pipeLitres, .ref q_t_thingAtEnd, .ref q_t_portAtEnd, .ref q_t_bendAtEnd, .ref q_t_inPipes])), (q_t_kind, .inl (cI, 40, .inl f_t_kind)), (q_t_position, .inl (cI, 40, .inl f_t_position))] := hD.sub (ws' := [(q_t, .inr (1, [.int v_t_things, .ref q_t_kind, .ref q_t_position, .ref q_t_told, .ref q_t_capacity, .ref q_t_amount, .ref q_t_liquid, .ref q_t_portsTaken, .ref q_t_endAtPort, .int v_t_pipes, .ref q_t_pipeLitres, .ref q_t_thingAtEnd, .ref q_t_portAtEnd, .ref q_t_bendAtEnd, .ref q_t_inPipes])), (q_t_kind, .inl (cI, 40, .inl f_t_kind)), (q_t_position, .inl (cI, 40, .inl f_t_position))]) [0, 1, 2] (by decide) rfl
            refine lv_if_ne (tgt := 178) hx hb d_Pl_passes_159 (by decide) (fun c159 => ?_) (fun c159 => ?_)
            · replace hw := hw.1 c159
              refine lv_iconst (v := 1) hx hb d_Pl_passes_178 (by decide) ?_
              refine lv_goto (tgt := 183) hx hb d_Pl_passes_179 (by decide) ?_
              exact W.zret (v := 1) hx hb hr (by decide) (fun t ht hW => ⟨⟨1, (), rfl, hw, by rw [ht]; exact hP, va_K.moved hW.alike hK, hD⟩, hS.F ht⟩) hS.2.2 d_Pl_passes_183
            · replace hw := hw.2 c159
              refine lv_iload hx hb d_Pl_passes_162 (lv_at hl 0 rfl) ?_
              refine lv_iconst (v := 3) hx hb d_Pl_passes_164 (by decide) ?_
              refine lv_icmp_ne (tgt := 182) hx hb d_Pl_passes_165 (by decide) (fun c165 => ?_) (fun c165 => ?_)
              · replace hw := hw.1 c165
                refine lv_iconst (v := 0) hx hb d_Pl_passes_182 (by decide) ?_
                exact W.zret (v := 0) hx hb hr (by decide) (fun t ht hW => ⟨⟨0, (), rfl, hw, by rw [ht]; exact hP, va_K.moved hW.alike hK, hD⟩, hS.F ht⟩) hS.2.2 d_Pl_passes_183
              · replace hw := hw.2 c165
                refine lv_iload_n hx hb d_Pl_passes_168 rfl (lv_at hl 3 rfl) ?_
                refine lv_iload_n hx hb d_Pl_passes_169 rfl (lv_at hl 4 rfl) ?_
                refine lv_iconst (v := 1) hx hb d_Pl_passes_170 (by decide) ?_
                refine lv_iconst (v := 2) hx hb d_Pl_passes_171 (by decide) ?_
                have hPc := hP.sub (ws' := []) [] rfl
                have hDc := hD.sub (ws' := []) [] (by decide) rfl
                have hFc := va_free (wc := []) hD hS hA [] rfl
                refine va_calli (va_runS (As := [.int x2, .int x3, .int 1, .int 2]) (rest := []) ⟨hx, hb, hml, hown, hts⟩ (c_Pl_isPair l dC dI cI cL cB  H.size  x2 x3 1 2 _ hw) (my_cwS 4 hts kw15_5321c83 kw15_199fc92 kw15_cd65af8 kw15_4172ee0 rfl rfl (by decide +kernel) ⟨Nat.le_of_ble_eq_true rfl, Nat.le_of_ble_eq_true rfl⟩) ⟨fun a U g mk q => by obtain ⟨q0, q1, qP, qK, qD⟩ := q; exact ⟨q0, q1, qP, va_K.moved (u := U) (U := U.calling g mk a) (Vm.Alike.refl U.vm) qK, qD⟩, fun U hU hW => ⟨rfl, by rw [hU], by rw [hU]; exact hPc, va_K.moved hW.alike hK, hDc.weaken (fun _ _ _ _ => trivial)⟩⟩ rfl rfl hl.1 rfl (lv_room (Nat.le_of_ble_eq_true rfl)) d_Pl_passes_172 ⟨Nat.zero_le _, Nat.zero_le _⟩) hS (fun q _ h => hFc q h) hFc (fun r172 u t H locs ht hvm hw hB hz1 hk1 hS => ?_)
                obtain ⟨hP1, hK1, hD1⟩ := hB
                rw [ht] at hP1
                obtain ⟨hP, hD⟩ := va_join (wr := [(q_t, .inr (1, [.int v_t_things, .ref q_t_kind, .ref q_t_position, .ref q_t_told, .ref q_t_capacity, .ref q_t_amount, .ref q_t_liquid, .ref q_t_portsTaken, .ref q_t_endAtPort, .int v_t_pipes, .ref q_t_pipeLitres, .ref q_t_thingAtEnd, .ref q_t_portAtEnd, .ref q_t_bendAtEnd, .ref q_t_inPipes])), (q_t_kind, .inl (cI, 40, .inl f_t_kind)), (q_t_position, .inl (cI, 40, .inl f_t_position))]) (w1 := []) hP hD [] [0, 1, 2] rfl rfl (by decide) (by decide) hk1 hFc hP1 hD1
                have hP : va_P (dC, dI) classes [(q_t, .inr (1, [.int v_t_things, .ref q_t_kind, .ref q_t_position, .ref q_t_told, .ref q_t_capacity, .ref q_t_amount, .ref q_t_liquid, .ref q_t_portsTaken, .ref q_t_endAtPort, .int v_t_pipes, .ref q_t_pipeLitres, .ref q_t_thingAtEnd, .ref q_t_portAtEnd, .ref q_t_bendAtEnd, .ref q_t_inPipes])), (q_t_kind, .inl (cI, 40, .inl f_t_kind)), (q_t_position, .inl (cI, 40, .inl f_t_position))] H := hP.sub (ws' := [(q_t, .inr (1, [.int v_t_things, .ref q_t_kind, .ref q_t_position, .ref q_t_told, .ref q_t_capacity, .ref q_t_amount, .ref q_t_liquid, .ref q_t_portsTaken, .ref q_t_endAtPort, .int v_t_pipes, .ref q_t_pipeLitres, .ref q_t_thingAtEnd, .ref q_t_portAtEnd, .ref q_t_bendAtEnd, .ref q_t_inPipes])), (q_t_kind, .inl (cI, 40, .inl f_t_kind)), (q_t_position, .inl (cI, 40, .inl f_t_position))]) [0, 1, 2] rfl
                have hD : va_D A [(q_t, .inr (1, [.int v_t_things, .ref q_t_kind, .ref q_t_position, .ref q_t_told, .ref q_t_capacity, .ref q_t_amount, .ref q_t_liquid, .ref q_t_portsTaken, .ref q_t_endAtPort, .int v_t_pipes, .ref q_t_pipeLitres, .ref q_t_thingAtEnd, .ref q_t_portAtEnd, .ref q_t_bendAtEnd, .ref q_t_inPipes])), (q_t_kind, .inl (cI, 40, .inl f_t_kind)), (q_t_position, .inl (cI, 40, .inl f_t_position))] := hD.sub (ws' := [(q_t, .inr (1, [.int v_t_things, .ref q_t_kind, .ref q_t_position, .ref q_t_told, .ref q_t_capacity, .ref q_t_amount, .ref q_t_liquid, .ref q_t_portsTaken, .ref q_t_endAtPort, .int v_t_pipes, .ref q_t_pipeLitres, .ref q_t_thingAtEnd, .ref q_t_portAtEnd, .ref q_t_bendAtEnd, .ref q_t_inPipes])), (q_t_kind, .inl (cI, 40, .inl f_t_kind)), (q_t_position, .inl (cI, 40, .inl f_t_position))]) [0, 1, 2] (by decide) rfl
                refine lv_if_eq (tgt := 182) hx hb d_Pl_passes_175 (by decide) (fun c175 => ?_) (fun c175 => ?_)
                · replace hw := hw.1 c175
                  refine lv_iconst (v := 0) hx hb d_Pl_passes_182 (by decide) ?_
                  exact W.zret (v := 0) hx hb hr (by decide) (fun t ht hW => ⟨⟨0, (), rfl, hw, by rw [ht]; exact hP, va_K.moved hW.alike hK, hD⟩, hS.F ht⟩) hS.2.2 d_Pl_passes_183
                · replace hw := hw.2 c175
                  refine lv_iconst (v := 1) hx hb d_Pl_passes_178 (by decide) ?_
                  refine lv_goto (tgt := 183) hx hb d_Pl_passes_179 (by decide) ?_
                  exact W.zret (v := 1) hx hb hr (by decide) (fun t ht hW => ⟨⟨1, (), rfl, hw, by rw [ht]; exact hP, va_K.moved hW.alike hK, hD⟩, hS.F ht⟩) hS.2.2 d_Pl_passes_183
        · replace hw := hw.2 c133
          refine lv_iload_n hx hb d_Pl_passes_136 rfl (lv_at hl 3 rfl) ?_
          refine lv_iload_n hx hb d_Pl_passes_137 rfl (lv_at hl 4 rfl) ?_
          refine lv_iconst (v := 0) hx hb d_Pl_passes_138 (by decide) ?_
          refine lv_iconst (v := 1) hx hb d_Pl_passes_139 (by decide) ?_
          have hPc := hP.sub (ws' := []) [] rfl
          have hDc := hD.sub (ws' := []) [] (by decide) rfl
          have hFc := va_free (wc := []) hD hS hA [] rfl
          refine va_calli (va_runS (As := [.int x2, .int x3, .int 0, .int 1]) (rest := []) ⟨hx, hb, hml, hown, hts⟩ (c_Pl_isPair l dC dI cI cL cB  s.heap.size  x2 x3 0 1 _ hw) (my_cwS 4 hts kw15_5321c83 kw15_199fc92 kw15_cd65af8 kw15_4172ee0 rfl rfl (by decide +kernel) ⟨Nat.le_of_ble_eq_true rfl, Nat.le_of_ble_eq_true rfl⟩) ⟨fun a U g mk q => by obtain ⟨q0, q1, qP, qK, qD⟩ := q; exact ⟨q0, q1, qP, va_K.moved (u := U) (U := U.calling g mk a) (Vm.Alike.refl U.vm) qK, qD⟩, fun U hU hW => ⟨rfl, by rw [hU], by rw [hU]; exact hPc, va_K.moved hW.alike hK, hDc.weaken (fun _ _ _ _ => trivial)⟩⟩ rfl rfl hl.1 rfl (lv_room (Nat.le_of_ble_eq_true rfl)) d_Pl_passes_140 ⟨Nat.zero_le _, Nat.zero_le _⟩) hS (fun q _ h => hFc q h) hFc (fun r140 u t H locs ht hvm hw hB hz1 hk1 hS => ?_)
          obtain ⟨hP1, hK1, hD1⟩ := hB
          rw [ht] at hP1
          obtain ⟨hP, hD⟩ := va_join (wr := [(q_t, .inr (1, [.int v_t_things, .ref q_t_kind, .ref q_t_position, .ref q_t_told, .ref q_t_capacity, .ref q_t_amount, .ref q_t_liquid, .ref q_t_portsTaken, .ref q_t_endAtPort, .int v_t_pipes, .ref q_t_pipeLitres, .ref q_t_thingAtEnd, .ref q_t_portAtEnd, .ref q_t_bendAtEnd, .ref q_t_inPipes])), (q_t_kind, .inl (cI, 40, .inl f_t_kind)), (q_t_position, .inl (cI, 40, .inl f_t_position))]) (w1 := []) hP hD [] [0, 1, 2] rfl rfl (by decide) (by decide) hk1 hFc hP1 hD1
          have hP : va_P (dC, dI) classes [(q_t, .inr (1, [.int v_t_things, .ref q_t_kind, .ref q_t_position, .ref q_t_told, .ref q_t_capacity, .ref q_t_amount, .ref q_t_liquid, .ref q_t_portsTaken, .ref q_t_endAtPort, .int v_t_pipes, .ref q_t_pipeLitres, .ref q_t_thingAtEnd, .ref q_t_portAtEnd, .ref q_t_bendAtEnd, .ref q_t_inPipes])), (q_t_kind, .inl (cI, 40, .inl f_t_kind)), (q_t_position, .inl (cI, 40, .inl f_t_position))] H := hP.sub (ws' := [(q_t, .inr (1, [.int v_t_things, .ref q_t_kind, .ref q_t_position, .ref q_t_told, .ref q_t_capacity, .ref q_t_amount, .ref q_t_liquid, .ref q_t_portsTaken, .ref q_t_endAtPort, .int v_t_pipes, .ref q_t_pipeLitres, .ref q_t_thingAtEnd, .ref q_t_portAtEnd, .ref q_t_bendAtEnd, .ref q_t_inPipes])), (q_t_kind, .inl (cI, 40, .inl f_t_kind)), (q_t_position, .inl (cI, 40, .inl f_t_position))]) [0, 1, 2] rfl
          have hD : va_D A [(q_t, .inr (1, [.int v_t_things, .ref q_t_kind, .ref q_t_position, .ref q_t_told, .ref q_t_capacity, .ref q_t_amount, .ref q_t_liquid, .ref q_t_portsTaken, .ref q_t_endAtPort, .int v_t_pipes, .ref q_t_pipeLitres, .ref q_t_thingAtEnd, .ref q_t_portAtEnd, .ref q_t_bendAtEnd, .ref q_t_inPipes])), (q_t_kind, .inl (cI, 40, .inl f_t_kind)), (q_t_position, .inl (cI, 40, .inl f_t_position))] := hD.sub (ws' := [(q_t, .inr (1, [.int v_t_things, .ref q_t_kind, .ref q_t_position, .ref q_t_told, .ref q_t_capacity, .ref q_t_amount, .ref q_t_liquid, .ref q_t_portsTaken, .ref q_t_endAtPort, .int v_t_pipes, .ref q_t_pipeLitres, .ref q_t_thingAtEnd, .ref q_t_portAtEnd, .ref q_t_bendAtEnd, .ref q_t_inPipes])), (q_t_kind, .inl (cI, 40, .inl f_t_kind)), (q_t_position, .inl (cI, 40, .inl f_t_position))]) [0, 1, 2] (by decide) rfl
          refine lv_if_ne (tgt := 178) hx hb d_Pl_passes_143 (by decide) (fun c143 => ?_) (fun c143 => ?_)
          · replace hw := hw.1 c143
            refine lv_iconst (v := 1) hx hb d_Pl_passes_178 (by decide) ?_
            refine lv_goto (tgt := 183) hx hb d_Pl_passes_179 (by decide) ?_
            exact W.zret (v := 1) hx hb hr (by decide) (fun t ht hW => ⟨⟨1, (), rfl, hw, by rw [ht]; exact hP, va_K.moved hW.alike hK, hD⟩, hS.F ht⟩) hS.2.2 d_Pl_passes_183
          · replace hw := hw.2 c143
            refine lv_iload hx hb d_Pl_passes_146 (lv_at hl 0 rfl) ?_
            refine lv_iconst (v := 2) hx hb d_Pl_passes_148 (by decide) ?_
            refine lv_icmp_ne (tgt := 162) hx hb d_Pl_passes_149 (by decide) (fun c149 => ?_) (fun c149 => ?_)
            · replace hw := hw.1 c149
              refine lv_iload hx hb d_Pl_passes_162 (lv_at hl 0 rfl) ?_
              refine lv_iconst (v := 3) hx hb d_Pl_passes_164 (by decide) ?_
              refine lv_icmp_ne (tgt := 182) hx hb d_Pl_passes_165 (by decide) (fun c165 => ?_) (fun c165 => ?_)
              · replace hw := hw.1 c165
                refine lv_iconst (v := 0) hx hb d_Pl_passes_182 (by decide) ?_
                exact W.zret (v := 0) hx hb hr (by decide) (fun t ht hW => ⟨⟨0, (), rfl, hw, by rw [ht]; exact hP, va_K.moved hW.alike hK, hD⟩, hS.F ht⟩) hS.2.2 d_Pl_passes_183
              · replace hw := hw.2 c165
                refine lv_iload_n hx hb d_Pl_passes_168 rfl (lv_at hl 3 rfl) ?_
                refine lv_iload_n hx hb d_Pl_passes_169 rfl (lv_at hl 4 rfl) ?_
                refine lv_iconst (v := 1) hx hb d_Pl_passes_170 (by decide) ?_
                refine lv_iconst (v := 2) hx hb d_Pl_passes_171 (by decide) ?_
                have hPc := hP.sub (ws' := []) [] rfl
                have hDc := hD.sub (ws' := []) [] (by decide) rfl
                have hFc := va_free (wc := []) hD hS hA [] rfl
                refine va_calli (va_runS (As := [.int x2, .int x3, .int 1, .int 2]) (rest := []) ⟨hx, hb, hml, hown, hts⟩ (c_Pl_isPair l dC dI cI cL cB  H.size  x2 x3 1 2 _ hw) (my_cwS 4 hts kw15_5321c83 kw15_199fc92 kw15_cd65af8 kw15_4172ee0 rfl rfl (by decide +kernel) ⟨Nat.le_of_ble_eq_true rfl, Nat.le_of_ble_eq_true rfl⟩) ⟨fun a U g mk q => by obtain ⟨q0, q1, qP, qK, qD⟩ := q; exact ⟨q0, q1, qP, va_K.moved (u := U) (U := U.calling g mk a) (Vm.Alike.refl U.vm) qK, qD⟩, fun U hU hW => ⟨rfl, by rw [hU], by rw [hU]; exact hPc, va_K.moved hW.alike hK, hDc.weaken (fun _ _ _ _ => trivial)⟩⟩ rfl rfl hl.1 rfl (lv_room (Nat.le_of_ble_eq_true rfl)) d_Pl_passes_172 ⟨Nat.zero_le _, Nat.zero_le _⟩) hS (fun q _ h => hFc q h) hFc (fun r172 u t H locs ht hvm hw hB hz1 hk1 hS => ?_)
                obtain ⟨hP1, hK1, hD1⟩ := hB
                rw [ht] at hP1
                obtain ⟨hP, hD⟩ := va_join (wr := [(q_t, .inr (1, [.int v_t_things, .ref q_t_kind, .ref q_t_position, .ref q_t_told, .ref q_t_capacity, .ref q_t_amount, .ref q_t_liquid, .ref q_t_portsTaken, .ref q_t_endAtPort, .int v_t_pipes, .ref q_t_pipeLitres, .ref q_t_thingAtEnd, .ref q_t_portAtEnd, .ref q_t_bendAtEnd, .ref q_t_inPipes])), (q_t_kind, .inl (cI, 40, .inl f_t_kind)), (q_t_position, .inl (cI, 40, .inl f_t_position))]) (w1 := []) hP hD [] [0, 1, 2] rfl rfl (by decide) (by decide) hk1 hFc hP1 hD1
                have hP : va_P (dC, dI) classes [(q_t, .inr (1, [.int v_t_things, .ref q_t_kind, .ref q_t_position, .ref q_t_told, .ref q_t_capacity, .ref q_t_amount, .ref q_t_liquid, .ref q_t_portsTaken, .ref q_t_endAtPort, .int v_t_pipes, .ref q_t_pipeLitres, .ref q_t_thingAtEnd, .ref q_t_portAtEnd, .ref q_t_bendAtEnd, .ref q_t_inPipes])), (q_t_kind, .inl (cI, 40, .inl f_t_kind)), (q_t_position, .inl (cI, 40, .inl f_t_position))] H := hP.sub (ws' := [(q_t, .inr (1, [.int v_t_things, .ref q_t_kind, .ref q_t_position, .ref q_t_told, .ref q_t_capacity, .ref q_t_amount, .ref q_t_liquid, .ref q_t_portsTaken, .ref q_t_endAtPort, .int v_t_pipes, .ref q_t_pipeLitres, .ref q_t_thingAtEnd, .ref q_t_portAtEnd, .ref q_t_bendAtEnd, .ref q_t_inPipes])), (q_t_kind, .inl (cI, 40, .inl f_t_kind)), (q_t_position, .inl (cI, 40, .inl f_t_position))]) [0, 1, 2] rfl
                have hD : va_D A [(q_t, .inr (1, [.int v_t_things, .ref q_t_kind, .ref q_t_position, .ref q_t_told, .ref q_t_capacity, .ref q_t_amount, .ref q_t_liquid, .ref q_t_portsTaken, .ref q_t_endAtPort, .int v_t_pipes, .ref q_t_pipeLitres, .ref q_t_thingAtEnd, .ref q_t_portAtEnd, .ref q_t_bendAtEnd, .ref q_t_inPipes])), (q_t_kind, .inl (cI, 40, .inl f_t_kind)), (q_t_position, .inl (cI, 40, .inl f_t_position))] := hD.sub (ws' := [(q_t, .inr (1, [.int v_t_things, .ref q_t_kind, .ref q_t_position, .ref q_t_told, .ref q_t_capacity, .ref q_t_amount, .ref q_t_liquid, .ref q_t_portsTaken, .ref q_t_endAtPort, .int v_t_pipes, .ref q_t_pipeLitres, .ref q_t_thingAtEnd, .ref q_t_portAtEnd, .ref q_t_bendAtEnd, .ref q_t_inPipes])), (q_t_kind, .inl (cI, 40, .inl f_t_kind)), (q_t_position, .inl (cI, 40, .inl f_t_position))]) [0, 1, 2] (by decide) rfl
                refine lv_if_eq (tgt := 182) hx hb d_Pl_passes_175 (by decide) (fun c175 => ?_) (fun c175 => ?_)
                · replace hw := hw.1 c175
                  refine lv_iconst (v := 0) hx hb d_Pl_passes_182 (by decide) ?_
                  exact W.zret (v := 0) hx hb hr (by decide) (fun t ht hW => ⟨⟨0, (), rfl, hw, by rw [ht]; exact hP, va_K.moved hW.alike hK, hD⟩, hS.F ht⟩) hS.2.2 d_Pl_passes_183
                · replace hw := hw.2 c175
                  refine lv_iconst (v := 1) hx hb d_Pl_passes_178 (by decide) ?_
                  refine lv_goto (tgt := 183) hx hb d_Pl_passes_179 (by decide) ?_
                  exact W.zret (v := 1) hx hb hr (by decide) (fun t ht hW => ⟨⟨1, (), rfl, hw, by rw [ht]; exact hP, va_K.moved hW.alike hK, hD⟩, hS.F ht⟩) hS.2.2 d_Pl_passes_183
            · replace hw := hw.2 c149
              refine lv_iload_n hx hb d_Pl_passes_152 rfl (lv_at hl 3 rfl) ?_
              refine lv_iload_n hx hb d_Pl_passes_153 rfl (lv_at hl 4 rfl) ?_
              refine lv_iconst (v := 0) hx hb d_Pl_passes_154 (by decide) ?_
              refine lv_iconst (v := 2) hx hb d_Pl_passes_155 (by decide) ?_
              have hPc := hP.sub (ws' := []) [] rfl
              have hDc := hD.sub (ws' := []) [] (by decide) rfl
              have hFc := va_free (wc := []) hD hS hA [] rfl
              refine va_calli (va_runS (As := [.int x2, .int x3, .int 0, .int 2]) (rest := []) ⟨hx, hb, hml, hown, hts⟩ (c_Pl_isPair l dC dI cI cL cB  H.size  x2 x3 0 2 _ hw) (my_cwS 4 hts kw15_5321c83 kw15_199fc92 kw15_cd65af8 kw15_4172ee0 rfl rfl (by decide +kernel) ⟨Nat.le_of_ble_eq_true rfl, Nat.le_of_ble_eq_true rfl⟩) ⟨fun a U g mk q => by obtain ⟨q0, q1, qP, qK, qD⟩ := q; exact ⟨q0, q1, qP, va_K.moved (u := U) (U := U.calling g mk a) (Vm.Alike.refl U.vm) qK, qD⟩, fun U hU hW => ⟨rfl, by rw [hU], by rw [hU]; exact hPc, va_K.moved hW.alike hK, hDc.weaken (fun _ _ _ _ => trivial)⟩⟩ rfl rfl hl.1 rfl (lv_room (Nat.le_of_ble_eq_true rfl)) d_Pl_passes_156 ⟨Nat.zero_le _, Nat.zero_le _⟩) hS (fun q _ h => hFc q h) hFc (fun r156 u t H locs ht hvm hw hB hz1 hk1 hS => ?_)
              obtain ⟨hP1, hK1, hD1⟩ := hB
              rw [ht] at hP1
              obtain ⟨hP, hD⟩ := va_join (wr := [(q_t, .inr (1, [.int v_t_things, .ref q_t_kind, .ref q_t_position, .ref q_t_told, .ref q_t_capacity, .ref q_t_amount, .ref q_t_liquid, .ref q_t_portsTaken, .ref q_t_endAtPort, .int v_t_pipes, .ref q_t_pipeLitres, .ref q_t_thingAtEnd, .ref q_t_portAtEnd, .ref q_t_bendAtEnd, .ref q_t_inPipes])), (q_t_kind, .inl (cI, 40, .inl f_t_kind)), (q_t_position, .inl (cI, 40, .inl f_t_position))]) (w1 := []) hP hD [] [0, 1, 2] rfl rfl (by decide) (by decide) hk1 hFc hP1 hD1
              have hP : va_P (dC, dI) classes [(q_t, .inr (1, [.int v_t_things, .ref q_t_kind, .ref q_t_position, .ref q_t_told, .ref q_t_capacity, .ref q_t_amount, .ref q_t_liquid, .ref q_t_portsTaken, .ref q_t_endAtPort, .int v_t_pipes, .ref q_t_pipeLitres, .ref q_t_thingAtEnd, .ref q_t_portAtEnd, .ref q_t_bendAtEnd, .ref q_t_inPipes])), (q_t_kind, .inl (cI, 40, .inl f_t_kind)), (q_t_position, .inl (cI, 40, .inl f_t_position))] H := hP.sub (ws' := [(q_t, .inr (1, [.int v_t_things, .ref q_t_kind, .ref q_t_position, .ref q_t_told, .ref q_t_capacity, .ref q_t_amount, .ref q_t_liquid, .ref q_t_portsTaken, .ref q_t_endAtPort, .int v_t_pipes, .ref q_t_pipeLitres, .ref q_t_thingAtEnd, .ref q_t_portAtEnd, .ref q_t_bendAtEnd, .ref q_t_inPipes])), (q_t_kind, .inl (cI, 40, .inl f_t_kind)), (q_t_position, .inl (cI, 40, .inl f_t_position))]) [0, 1, 2] rfl
              have hD : va_D A [(q_t, .inr (1, [.int v_t_things, .ref q_t_kind, .ref q_t_position, .ref q_t_told, .ref q_t_capacity, .ref q_t_amount, .ref q_t_liquid, .ref q_t_portsTaken, .ref q_t_endAtPort, .int v_t_pipes, .ref q_t_pipeLitres, .ref q_t_thingAtEnd, .ref q_t_portAtEnd, .ref q_t_bendAtEnd, .ref q_t_inPipes])), (q_t_kind, .inl (cI, 40, .inl f_t_kind)), (q_t_position, .inl (cI, 40, .inl f_t_position))] := hD.sub (ws' := [(q_t, .inr (1, [.int v_t_things, .ref q_t_kind, .ref q_t_position, .ref q_t_told, .ref q_t_capacity, .ref q_t_amount, .ref q_t_liquid, .ref q_t_portsTaken, .ref q_t_endAtPort, .int v_t_pipes, .ref q_t_pipeLitres, .ref q_t_thingAtEnd, .ref q_t_portAtEnd, .ref q_t_bendAtEnd, .ref q_t_inPipes])), (q_t_kind, .inl (cI, 40, .inl f_t_kind)), (q_t_position, .inl (cI, 40, .inl f_t_position))]) [0, 1, 2] (by decide) rfl
              refine lv_if_ne (tgt := 178) hx hb d_Pl_passes_159 (by decide) (fun c159 => ?_) (fun c159 => ?_)
              · replace hw := hw.1 c159
                refine lv_iconst (v := 1) hx hb d_Pl_passes_178 (by decide) ?_
                refine lv_goto (tgt := 183) hx hb d_Pl_passes_179 (by decide) ?_
                exact W.zret (v := 1) hx hb hr (by decide) (fun t ht hW => ⟨⟨1, (), rfl, hw, by rw [ht]; exact hP, va_K.moved hW.alike hK, hD⟩, hS.F ht⟩) hS.2.2 d_Pl_passes_183
              · replace hw := hw.2 c159
                refine lv_iload hx hb d_Pl_passes_162 (lv_at hl 0 rfl) ?_
                refine lv_iconst (v := 3) hx hb d_Pl_passes_164 (by decide) ?_
                refine lv_icmp_ne (tgt := 182) hx hb d_Pl_passes_165 (by decide) (fun c165 => ?_) (fun c165 => ?_)
                · replace hw := hw.1 c165
                  refine lv_iconst (v := 0) hx hb d_Pl_passes_182 (by decide) ?_
                  exact W.zret (v := 0) hx hb hr (by decide) (fun t ht hW => ⟨⟨0, (), rfl, hw, by rw [ht]; exact hP, va_K.moved hW.alike hK, hD⟩, hS.F ht⟩) hS.2.2 d_Pl_passes_183
                · replace hw := hw.2 c165
                  refine lv_iload_n hx hb d_Pl_passes_168 rfl (lv_at hl 3 rfl) ?_
                  refine lv_iload_n hx hb d_Pl_passes_169 rfl (lv_at hl 4 rfl) ?_
                  refine lv_iconst (v := 1) hx hb d_Pl_passes_170 (by decide) ?_
                  refine lv_iconst (v := 2) hx hb d_Pl_passes_171 (by decide) ?_
                  have hPc := hP.sub (ws' := []) [] rfl
                  have hDc := hD.sub (ws' := []) [] (by decide) rfl
                  have hFc := va_free (wc := []) hD hS hA [] rfl
                  refine va_calli (va_runS (As := [.int x2, .int x3, .int 1, .int 2]) (rest := []) ⟨hx, hb, hml, hown, hts⟩ (c_Pl_isPair l dC dI cI cL cB  H.size  x2 x3 1 2 _ hw) (my_cwS 4 hts kw15_5321c83 kw15_199fc92 kw15_cd65af8 kw15_4172ee0 rfl rfl (by decide +kernel) ⟨Nat.le_of_ble_eq_true rfl, Nat.le_of_ble_eq_true rfl⟩) ⟨fun a U g mk q => by obtain ⟨q0, q1, qP, qK, qD⟩ := q; exact ⟨q0, q1, qP, va_K.moved (u := U) (U := U.calling g mk a) (Vm.Alike.refl U.vm) qK, qD⟩, fun U hU hW => ⟨rfl, by rw [hU], by rw [hU]; exact hPc, va_K.moved hW.alike hK, hDc.weaken (fun _ _ _ _ => trivial)⟩⟩ rfl rfl hl.1 rfl (lv_room (Nat.le_of_ble_eq_true rfl)) d_Pl_passes_172 ⟨Nat.zero_le _, Nat.zero_le _⟩) hS (fun q _ h => hFc q h) hFc (fun r172 u t H locs ht hvm hw hB hz1 hk1 hS => ?_)
                  obtain ⟨hP1, hK1, hD1⟩ := hB
                  rw [ht] at hP1
                  obtain ⟨hP, hD⟩ := va_join (wr := [(q_t, .inr (1, [.int v_t_things, .ref q_t_kind, .ref q_t_position, .ref q_t_told, .ref q_t_capacity, .ref q_t_amount, .ref q_t_liquid, .ref q_t_portsTaken, .ref q_t_endAtPort, .int v_t_pipes, .ref q_t_pipeLitres, .ref q_t_thingAtEnd, .ref q_t_portAtEnd, .ref q_t_bendAtEnd, .ref q_t_inPipes])), (q_t_kind, .inl (cI, 40, .inl f_t_kind)), (q_t_position, .inl (cI, 40, .inl f_t_position))]) (w1 := []) hP hD [] [0, 1, 2] rfl rfl (by decide) (by decide) hk1 hFc hP1 hD1
                  have hP : va_P (dC, dI) classes [(q_t, .inr (1, [.int v_t_things, .ref q_t_kind, .ref q_t_position, .ref q_t_told, .ref q_t_capacity, .ref q_t_amount, .ref q_t_liquid, .ref q_t_portsTaken, .ref q_t_endAtPort, .int v_t_pipes, .ref q_t_pipeLitres, .ref q_t_thingAtEnd, .ref q_t_portAtEnd, .ref q_t_bendAtEnd, .ref q_t_inPipes])), (q_t_kind, .inl (cI, 40, .inl f_t_kind)), (q_t_position, .inl (cI, 40, .inl f_t_position))] H := hP.sub (ws' := [(q_t, .inr (1, [.int v_t_things, .ref q_t_kind, .ref q_t_position, .ref q_t_told, .ref q_t_capacity, .ref q_t_amount, .ref q_t_liquid, .ref q_t_portsTaken, .ref q_t_endAtPort, .int v_t_pipes, .ref q_t_pipeLitres, .ref q_t_thingAtEnd, .ref q_t_portAtEnd, .ref q_t_bendAtEnd, .ref q_t_inPipes])), (q_t_kind, .inl (cI, 40, .inl f_t_kind)), (q_t_position, .inl (cI, 40, .inl f_t_position))]) [0, 1, 2] rfl
                  have hD : va_D A [(q_t, .inr (1, [.int v_t_things, .ref q_t_kind, .ref q_t_position, .ref q_t_told, .ref q_t_capacity, .ref q_t_amount, .ref q_t_liquid, .ref q_t_portsTaken, .ref q_t_endAtPort, .int v_t_pipes, .ref q_t_pipeLitres, .ref q_t_thingAtEnd, .ref q_t_portAtEnd, .ref q_t_bendAtEnd, .ref q_t_inPipes])), (q_t_kind, .inl (cI, 40, .inl f_t_kind)), (q_t_position, .inl (cI, 40, .inl f_t_position))] := hD.sub (ws' := [(q_t, .inr (1, [.int v_t_things, .ref q_t_kind, .ref q_t_position, .ref q_t_told, .ref q_t_capacity, .ref q_t_amount, .ref q_t_liquid, .ref q_t_portsTaken, .ref q_t_endAtPort, .int v_t_pipes, .ref q_t_pipeLitres, .ref q_t_thingAtEnd, .ref q_t_portAtEnd, .ref q_t_bendAtEnd, .ref q_t_inPipes])), (q_t_kind, .inl (cI, 40, .inl f_t_kind)), (q_t_position, .inl (cI, 40, .inl f_t_position))]) [0, 1, 2] (by decide) rfl
                  refine lv_if_eq (tgt := 182) hx hb d_Pl_passes_175 (by decide) (fun c175 => ?_) (fun c175 => ?_)
                  · replace hw := hw.1 c175
                    refine lv_iconst (v := 0) hx hb d_Pl_passes_182 (by decide) ?_
                    exact W.zret (v := 0) hx hb hr (by decide) (fun t ht hW => ⟨⟨0, (), rfl, hw, by rw [ht]; exact hP, va_K.moved hW.alike hK, hD⟩, hS.F ht⟩) hS.2.2 d_Pl_passes_183
                  · replace hw := hw.2 c175
                    refine lv_iconst (v := 1) hx hb d_Pl_passes_178 (by decide) ?_
                    refine lv_goto (tgt := 183) hx hb d_Pl_passes_179 (by decide) ?_
                    exact W.zret (v := 1) hx hb hr (by decide) (fun t ht hW => ⟨⟨1, (), rfl, hw, by rw [ht]; exact hP, va_K.moved hW.alike hK, hD⟩, hS.F ht⟩) hS.2.2 d_Pl_passes_183
    replace hw := hw.2 c21_2
    by_cases c21_3 : (f_t_kind x1.toNatClampNeg) = 3
    · replace hw := hw.1 c21_3
      refine lv_tableIn (tgt := 305) hx hb d_Pl_passes_21 (by rw [c21_3]; decide) (by rw [c21_3]; decide) (by rw [c21_3]; rfl) (by decide) ?_
      refine lv_iload_n hx hb d_Pl_passes_305 rfl (lv_at hl 3 rfl) ?_
      refine lv_if_ne (tgt := 313) hx hb d_Pl_passes_306 (by decide) (fun c306 => ?_) (fun c306 => ?_)
      · replace hw := hw.1 c306
        refine lv_iconst (v := 0) hx hb d_Pl_passes_313 (by decide) ?_
        exact W.zret (v := 0) hx hb hr (by decide) (fun t ht hW => ⟨⟨0, (), rfl, hw, by rw [ht]; exact hP, va_K.moved hW.alike hK, hD⟩, hS.F ht⟩) hS.2.2 d_Pl_passes_314
      · replace hw := hw.2 c306
        refine lv_iconst (v := 1) hx hb d_Pl_passes_309 (by decide) ?_
        refine lv_goto (tgt := 314) hx hb d_Pl_passes_310 (by decide) ?_
        exact W.zret (v := 1) hx hb hr (by decide) (fun t ht hW => ⟨⟨1, (), rfl, hw, by rw [ht]; exact hP, va_K.moved hW.alike hK, hD⟩, hS.F ht⟩) hS.2.2 d_Pl_passes_314
    replace hw := hw.2 c21_3
    by_cases c21_4 : (f_t_kind x1.toNatClampNeg) = 4
    · replace hw := hw.1 c21_4
      refine lv_tableIn (tgt := 184) hx hb d_Pl_passes_21 (by rw [c21_4]; decide) (by rw [c21_4]; decide) (by rw [c21_4]; rfl) (by decide) ?_
      refine lv_iload hx hb d_Pl_passes_184 (lv_at hl 0 rfl) ?_
      refine lv_iconst (v := 1) hx hb d_Pl_passes_186 (by decide) ?_
      refine lv_icmp_eq (tgt := 215) hx hb d_Pl_passes_187 (by decide) (fun c187 => ?_) (fun c187 => ?_)
      · replace hw := hw.1 c187
        refine lv_iconst (v := 1) hx hb d_Pl_passes_215 (by decide) ?_
        refine lv_goto (tgt := 220) hx hb d_Pl_passes_216 (by decide) ?_
        exact W.zret (v := 1) hx hb hr (by decide) (fun t ht hW => ⟨⟨1, (), rfl, hw, by rw [ht]; exact hP, va_K.moved hW.alike hK, hD⟩, hS.F ht⟩) hS.2.2 d_Pl_passes_220
      · replace hw := hw.2 c187
        refine lv_iload hx hb d_Pl_passes_190 (lv_at hl 0 rfl) ?_
        refine lv_if_ne (tgt := 219) hx hb d_Pl_passes_192 (by decide) (fun c192 => ?_) (fun c192 => ?_)
        · replace hw := hw.1 c192
          refine lv_iconst (v := 0) hx hb d_Pl_passes_219 (by decide) ?_
          exact W.zret (v := 0) hx hb hr (by decide) (fun t ht hW => ⟨⟨0, (), rfl, hw, by rw [ht]; exact hP, va_K.moved hW.alike hK, hD⟩, hS.F ht⟩) hS.2.2 d_Pl_passes_220
        · replace hw := hw.2 c192
          refine lv_iload_n hx hb d_Pl_passes_195 rfl (lv_at hl 3 rfl) ?_
          refine lv_iload_n hx hb d_Pl_passes_196 rfl (lv_at hl 4 rfl) ?_
          refine lv_iconst (v := 0) hx hb d_Pl_passes_197 (by decide) ?_
          refine lv_iconst (v := 1) hx hb d_Pl_passes_198 (by decide) ?_
          have hPc := hP.sub (ws' := []) [] rfl
          have hDc := hD.sub (ws' := []) [] (by decide) rfl
          have hFc := va_free (wc := []) hD hS hA [] rfl
          refine va_calli (va_runS (As := [.int x2, .int x3, .int 0, .int 1]) (rest := []) ⟨hx, hb, hml, hown, hts⟩ (c_Pl_isPair l dC dI cI cL cB  s.heap.size  x2 x3 0 1 _ hw) (my_cwS 4 hts kw15_5321c83 kw15_199fc92 kw15_cd65af8 kw15_4172ee0 rfl rfl (by decide +kernel) ⟨Nat.le_of_ble_eq_true rfl, Nat.le_of_ble_eq_true rfl⟩) ⟨fun a U g mk q => by obtain ⟨q0, q1, qP, qK, qD⟩ := q; exact ⟨q0, q1, qP, va_K.moved (u := U) (U := U.calling g mk a) (Vm.Alike.refl U.vm) qK, qD⟩, fun U hU hW => ⟨rfl, by rw [hU], by rw [hU]; exact hPc, va_K.moved hW.alike hK, hDc.weaken (fun _ _ _ _ => trivial)⟩⟩ rfl rfl hl.1 rfl (lv_room (Nat.le_of_ble_eq_true rfl)) d_Pl_passes_199 ⟨Nat.zero_le _, Nat.zero_le _⟩) hS (fun q _ h => hFc q h) hFc (fun r199 u t H locs ht hvm hw hB hz1 hk1 hS => ?_)
          obtain ⟨hP1, hK1, hD1⟩ := hB
          rw [ht] at hP1
          obtain ⟨hP, hD⟩ := va_join (wr := [(q_t, .inr (1, [.int v_t_things, .ref q_t_kind, .ref q_t_position, .ref q_t_told, .ref q_t_capacity, .ref q_t_amount, .ref q_t_liquid, .ref q_t_portsTaken, .ref q_t_endAtPort, .int v_t_pipes, .ref q_t_pipeLitres, .ref q_t_thingAtEnd, .ref q_t_portAtEnd, .ref q_t_bendAtEnd, .ref q_t_inPipes])), (q_t_kind, .inl (cI, 40, .inl f_t_kind)), (q_t_position, .inl (cI, 40, .inl f_t_position))]) (w1 := []) hP hD [] [0, 1, 2] rfl rfl (by decide) (by decide) hk1 hFc hP1 hD1
          have hP : va_P (dC, dI) classes [(q_t, .inr (1, [.int v_t_things, .ref q_t_kind, .ref q_t_position, .ref q_t_told, .ref q_t_capacity, .ref q_t_amount, .ref q_t_liquid, .ref q_t_portsTaken, .ref q_t_endAtPort, .int v_t_pipes, .ref q_t_pipeLitres, .ref q_t_thingAtEnd, .ref q_t_portAtEnd, .ref q_t_bendAtEnd, .ref q_t_inPipes])), (q_t_kind, .inl (cI, 40, .inl f_t_kind)), (q_t_position, .inl (cI, 40, .inl f_t_position))] H := hP.sub (ws' := [(q_t, .inr (1, [.int v_t_things, .ref q_t_kind, .ref q_t_position, .ref q_t_told, .ref q_t_capacity, .ref q_t_amount, .ref q_t_liquid, .ref q_t_portsTaken, .ref q_t_endAtPort, .int v_t_pipes, .ref q_t_pipeLitres, .ref q_t_thingAtEnd, .ref q_t_portAtEnd, .ref q_t_bendAtEnd, .ref q_t_inPipes])), (q_t_kind, .inl (cI, 40, .inl f_t_kind)), (q_t_position, .inl (cI, 40, .inl f_t_position))]) [0, 1, 2] rfl
          have hD : va_D A [(q_t, .inr (1, [.int v_t_things, .ref q_t_kind, .ref q_t_position, .ref q_t_told, .ref q_t_capacity, .ref q_t_amount, .ref q_t_liquid, .ref q_t_portsTaken, .ref q_t_endAtPort, .int v_t_pipes, .ref q_t_pipeLitres, .ref q_t_thingAtEnd, .ref q_t_portAtEnd, .ref q_t_bendAtEnd, .ref q_t_inPipes])), (q_t_kind, .inl (cI, 40, .inl f_t_kind)), (q_t_position, .inl (cI, 40, .inl f_t_position))] := hD.sub (ws' := [(q_t, .inr (1, [.int v_t_things, .ref q_t_kind, .ref q_t_position, .ref q_t_told, .ref q_t_capacity, .ref q_t_amount, .ref q_t_liquid, .ref q_t_portsTaken, .ref q_t_endAtPort, .int v_t_pipes, .ref q_t_pipeLitres, .ref q_t_thingAtEnd, .ref q_t_portAtEnd, .ref q_t_bendAtEnd, .ref q_t_inPipes])), (q_t_kind, .inl (cI, 40, .inl f_t_kind)), (q_t_position, .inl (cI, 40, .inl f_t_position))]) [0, 1, 2] (by decide) rfl
          refine lv_if_ne (tgt := 215) hx hb d_Pl_passes_202 (by decide) (fun c202 => ?_) (fun c202 => ?_)
          · replace hw := hw.1 c202
            refine lv_iconst (v := 1) hx hb d_Pl_passes_215 (by decide) ?_
            refine lv_goto (tgt := 220) hx hb d_Pl_passes_216 (by decide) ?_
            exact W.zret (v := 1) hx hb hr (by decide) (fun t ht hW => ⟨⟨1, (), rfl, hw, by rw [ht]; exact hP, va_K.moved hW.alike hK, hD⟩, hS.F ht⟩) hS.2.2 d_Pl_passes_220
          · replace hw := hw.2 c202
            refine lv_iload_n hx hb d_Pl_passes_205 rfl (lv_at hl 3 rfl) ?_
            refine lv_iload_n hx hb d_Pl_passes_206 rfl (lv_at hl 4 rfl) ?_
            refine lv_iconst (v := 2) hx hb d_Pl_passes_207 (by decide) ?_
            refine lv_iconst (v := 3) hx hb d_Pl_passes_208 (by decide) ?_
            have hPc := hP.sub (ws' := []) [] rfl
            have hDc := hD.sub (ws' := []) [] (by decide) rfl
            have hFc := va_free (wc := []) hD hS hA [] rfl
            refine va_calli (va_runS (As := [.int x2, .int x3, .int 2, .int 3]) (rest := []) ⟨hx, hb, hml, hown, hts⟩ (c_Pl_isPair l dC dI cI cL cB  H.size  x2 x3 2 3 _ hw) (my_cwS 4 hts kw15_5321c83 kw15_199fc92 kw15_cd65af8 kw15_4172ee0 rfl rfl (by decide +kernel) ⟨Nat.le_of_ble_eq_true rfl, Nat.le_of_ble_eq_true rfl⟩) ⟨fun a U g mk q => by obtain ⟨q0, q1, qP, qK, qD⟩ := q; exact ⟨q0, q1, qP, va_K.moved (u := U) (U := U.calling g mk a) (Vm.Alike.refl U.vm) qK, qD⟩, fun U hU hW => ⟨rfl, by rw [hU], by rw [hU]; exact hPc, va_K.moved hW.alike hK, hDc.weaken (fun _ _ _ _ => trivial)⟩⟩ rfl rfl hl.1 rfl (lv_room (Nat.le_of_ble_eq_true rfl)) d_Pl_passes_209 ⟨Nat.zero_le _, Nat.zero_le _⟩) hS (fun q _ h => hFc q h) hFc (fun r209 u t H locs ht hvm hw hB hz1 hk1 hS => ?_)
            obtain ⟨hP1, hK1, hD1⟩ := hB
            rw [ht] at hP1
            obtain ⟨hP, hD⟩ := va_join (wr := [(q_t, .inr (1, [.int v_t_things, .ref q_t_kind, .ref q_t_position, .ref q_t_told, .ref q_t_capacity, .ref q_t_amount, .ref q_t_liquid, .ref q_t_portsTaken, .ref q_t_endAtPort, .int v_t_pipes, .ref q_t_pipeLitres, .ref q_t_thingAtEnd, .ref q_t_portAtEnd, .ref q_t_bendAtEnd, .ref q_t_inPipes])), (q_t_kind, .inl (cI, 40, .inl f_t_kind)), (q_t_position, .inl (cI, 40, .inl f_t_position))]) (w1 := []) hP hD [] [0, 1, 2] rfl rfl (by decide) (by decide) hk1 hFc hP1 hD1
            have hP : va_P (dC, dI) classes [(q_t, .inr (1, [.int v_t_things, .ref q_t_kind, .ref q_t_position, .ref q_t_told, .ref q_t_capacity, .ref q_t_amount, .ref q_t_liquid, .ref q_t_portsTaken, .ref q_t_endAtPort, .int v_t_pipes, .ref q_t_pipeLitres, .ref q_t_thingAtEnd, .ref q_t_portAtEnd, .ref q_t_bendAtEnd, .ref q_t_inPipes])), (q_t_kind, .inl (cI, 40, .inl f_t_kind)), (q_t_position, .inl (cI, 40, .inl f_t_position))] H := hP.sub (ws' := [(q_t, .inr (1, [.int v_t_things, .ref q_t_kind, .ref q_t_position, .ref q_t_told, .ref q_t_capacity, .ref q_t_amount, .ref q_t_liquid, .ref q_t_portsTaken, .ref q_t_endAtPort, .int v_t_pipes, .ref q_t_pipeLitres, .ref q_t_thingAtEnd, .ref q_t_portAtEnd, .ref q_t_bendAtEnd, .ref q_t_inPipes])), (q_t_kind, .inl (cI, 40, .inl f_t_kind)), (q_t_position, .inl (cI, 40, .inl f_t_position))]) [0, 1, 2] rfl
            have hD : va_D A [(q_t, .inr (1, [.int v_t_things, .ref q_t_kind, .ref q_t_position, .ref q_t_told, .ref q_t_capacity, .ref q_t_amount, .ref q_t_liquid, .ref q_t_portsTaken, .ref q_t_endAtPort, .int v_t_pipes, .ref q_t_pipeLitres, .ref q_t_thingAtEnd, .ref q_t_portAtEnd, .ref q_t_bendAtEnd, .ref q_t_inPipes])), (q_t_kind, .inl (cI, 40, .inl f_t_kind)), (q_t_position, .inl (cI, 40, .inl f_t_position))] := hD.sub (ws' := [(q_t, .inr (1, [.int v_t_things, .ref q_t_kind, .ref q_t_position, .ref q_t_told, .ref q_t_capacity, .ref q_t_amount, .ref q_t_liquid, .ref q_t_portsTaken, .ref q_t_endAtPort, .int v_t_pipes, .ref q_t_pipeLitres, .ref q_t_thingAtEnd, .ref q_t_portAtEnd, .ref q_t_bendAtEnd, .ref q_t_inPipes])), (q_t_kind, .inl (cI, 40, .inl f_t_kind)), (q_t_position, .inl (cI, 40, .inl f_t_position))]) [0, 1, 2] (by decide) rfl
            refine lv_if_eq (tgt := 219) hx hb d_Pl_passes_212 (by decide) (fun c212 => ?_) (fun c212 => ?_)
            · replace hw := hw.1 c212
              refine lv_iconst (v := 0) hx hb d_Pl_passes_219 (by decide) ?_
              exact W.zret (v := 0) hx hb hr (by decide) (fun t ht hW => ⟨⟨0, (), rfl, hw, by rw [ht]; exact hP, va_K.moved hW.alike hK, hD⟩, hS.F ht⟩) hS.2.2 d_Pl_passes_220
            · replace hw := hw.2 c212
              refine lv_iconst (v := 1) hx hb d_Pl_passes_215 (by decide) ?_
              refine lv_goto (tgt := 220) hx hb d_Pl_passes_216 (by decide) ?_
              exact W.zret (v := 1) hx hb hr (by decide) (fun t ht hW => ⟨⟨1, (), rfl, hw, by rw [ht]; exact hP, va_K.moved hW.alike hK, hD⟩, hS.F ht⟩) hS.2.2 d_Pl_passes_220
    replace hw := hw.2 c21_4
    by_cases c21_5 : (f_t_kind x1.toNatClampNeg) = 5
    · replace hw := hw.1 c21_5
      refine lv_tableIn (tgt := 315) hx hb d_Pl_passes_21 (by rw [c21_5]; decide) (by rw [c21_5]; decide) (by rw [c21_5]; rfl) (by decide) ?_
      refine lv_iconst (v := 0) hx hb d_Pl_passes_315 (by decide) ?_
      exact W.zret (v := 0) hx hb hr (by decide) (fun t ht hW => ⟨⟨0, (), rfl, hw, by rw [ht]; exact hP, va_K.moved hW.alike hK, hD⟩, hS.F ht⟩) hS.2.2 d_Pl_passes_316
    replace hw := hw.2 c21_5
    by_cases c21_6 : (f_t_kind x1.toNatClampNeg) = 6
    · replace hw := hw.1 c21_6
      refine lv_tableIn (tgt := 221) hx hb d_Pl_passes_21 (by rw [c21_6]; decide) (by rw [c21_6]; decide) (by rw [c21_6]; rfl) (by decide) ?_
      refine lv_iload hx hb d_Pl_passes_221 (lv_at hl 0 rfl) ?_
      refine lv_if_ne (tgt := 246) hx hb d_Pl_passes_223 (by decide) (fun c223 => ?_) (fun c223 => ?_)
      · replace hw := hw.1 c223
        refine lv_iload hx hb d_Pl_passes_246 (lv_at hl 0 rfl) ?_
        refine lv_iconst (v := 1) hx hb d_Pl_passes_248 (by decide) ?_
        refine lv_icmp_ne (tgt := 276) hx hb d_Pl_passes_249 (by decide) (fun c249 => ?_) (fun c249 => ?_)
        · replace hw := hw.1 c249
          refine lv_iconst (v := 0) hx hb d_Pl_passes_276 (by decide) ?_
          exact W.zret (v := 0) hx hb hr (by decide) (fun t ht hW => ⟨⟨0, (), rfl, hw, by rw [ht]; exact hP, va_K.moved hW.alike hK, hD⟩, hS.F ht⟩) hS.2.2 d_Pl_passes_277
        · replace hw := hw.2 c249
          refine lv_iload_n hx hb d_Pl_passes_252 rfl (lv_at hl 3 rfl) ?_
          refine lv_iload_n hx hb d_Pl_passes_253 rfl (lv_at hl 4 rfl) ?_
          refine lv_iconst (v := 0) hx hb d_Pl_passes_254 (by decide) ?_
          refine lv_iconst (v := 3) hx hb d_Pl_passes_255 (by decide) ?_
          have hPc := hP.sub (ws' := []) [] rfl
          have hDc := hD.sub (ws' := []) [] (by decide) rfl
          have hFc := va_free (wc := []) hD hS hA [] rfl
          refine va_calli (va_runS (As := [.int x2, .int x3, .int 0, .int 3]) (rest := []) ⟨hx, hb, hml, hown, hts⟩ (c_Pl_isPair l dC dI cI cL cB  s.heap.size  x2 x3 0 3 _ hw) (my_cwS 4 hts kw15_5321c83 kw15_199fc92 kw15_cd65af8 kw15_4172ee0 rfl rfl (by decide +kernel) ⟨Nat.le_of_ble_eq_true rfl, Nat.le_of_ble_eq_true rfl⟩) ⟨fun a U g mk q => by obtain ⟨q0, q1, qP, qK, qD⟩ := q; exact ⟨q0, q1, qP, va_K.moved (u := U) (U := U.calling g mk a) (Vm.Alike.refl U.vm) qK, qD⟩, fun U hU hW => ⟨rfl, by rw [hU], by rw [hU]; exact hPc, va_K.moved hW.alike hK, hDc.weaken (fun _ _ _ _ => trivial)⟩⟩ rfl rfl hl.1 rfl (lv_room (Nat.le_of_ble_eq_true rfl)) d_Pl_passes_256 ⟨Nat.zero_le _, Nat.zero_le _⟩) hS (fun q _ h => hFc q h) hFc (fun r256 u t H locs ht hvm hw hB hz1 hk1 hS => ?_)
          obtain ⟨hP1, hK1, hD1⟩ := hB
          rw [ht] at hP1
          obtain ⟨hP, hD⟩ := va_join (wr := [(q_t, .inr (1, [.int v_t_things, .ref q_t_kind, .ref q_t_position, .ref q_t_told, .ref q_t_capacity, .ref q_t_amount, .ref q_t_liquid, .ref q_t_portsTaken, .ref q_t_endAtPort, .int v_t_pipes, .ref q_t_pipeLitres, .ref q_t_thingAtEnd, .ref q_t_portAtEnd, .ref q_t_bendAtEnd, .ref q_t_inPipes])), (q_t_kind, .inl (cI, 40, .inl f_t_kind)), (q_t_position, .inl (cI, 40, .inl f_t_position))]) (w1 := []) hP hD [] [0, 1, 2] rfl rfl (by decide) (by decide) hk1 hFc hP1 hD1
          have hP : va_P (dC, dI) classes [(q_t, .inr (1, [.int v_t_things, .ref q_t_kind, .ref q_t_position, .ref q_t_told, .ref q_t_capacity, .ref q_t_amount, .ref q_t_liquid, .ref q_t_portsTaken, .ref q_t_endAtPort, .int v_t_pipes, .ref q_t_pipeLitres, .ref q_t_thingAtEnd, .ref q_t_portAtEnd, .ref q_t_bendAtEnd, .ref q_t_inPipes])), (q_t_kind, .inl (cI, 40, .inl f_t_kind)), (q_t_position, .inl (cI, 40, .inl f_t_position))] H := hP.sub (ws' := [(q_t, .inr (1, [.int v_t_things, .ref q_t_kind, .ref q_t_position, .ref q_t_told, .ref q_t_capacity, .ref q_t_amount, .ref q_t_liquid, .ref q_t_portsTaken, .ref q_t_endAtPort, .int v_t_pipes, .ref q_t_pipeLitres, .ref q_t_thingAtEnd, .ref q_t_portAtEnd, .ref q_t_bendAtEnd, .ref q_t_inPipes])), (q_t_kind, .inl (cI, 40, .inl f_t_kind)), (q_t_position, .inl (cI, 40, .inl f_t_position))]) [0, 1, 2] rfl
          have hD : va_D A [(q_t, .inr (1, [.int v_t_things, .ref q_t_kind, .ref q_t_position, .ref q_t_told, .ref q_t_capacity, .ref q_t_amount, .ref q_t_liquid, .ref q_t_portsTaken, .ref q_t_endAtPort, .int v_t_pipes, .ref q_t_pipeLitres, .ref q_t_thingAtEnd, .ref q_t_portAtEnd, .ref q_t_bendAtEnd, .ref q_t_inPipes])), (q_t_kind, .inl (cI, 40, .inl f_t_kind)), (q_t_position, .inl (cI, 40, .inl f_t_position))] := hD.sub (ws' := [(q_t, .inr (1, [.int v_t_things, .ref q_t_kind, .ref q_t_position, .ref q_t_told, .ref q_t_capacity, .ref q_t_amount, .ref q_t_liquid, .ref q_t_portsTaken, .ref q_t_endAtPort, .int v_t_pipes, .ref q_t_pipeLitres, .ref q_t_thingAtEnd, .ref q_t_portAtEnd, .ref q_t_bendAtEnd, .ref q_t_inPipes])), (q_t_kind, .inl (cI, 40, .inl f_t_kind)), (q_t_position, .inl (cI, 40, .inl f_t_position))]) [0, 1, 2] (by decide) rfl
          refine lv_if_ne (tgt := 272) hx hb d_Pl_passes_259 (by decide) (fun c259 => ?_) (fun c259 => ?_)
          · replace hw := hw.1 c259
            refine lv_iconst (v := 1) hx hb d_Pl_passes_272 (by decide) ?_
            refine lv_goto (tgt := 277) hx hb d_Pl_passes_273 (by decide) ?_
            exact W.zret (v := 1) hx hb hr (by decide) (fun t ht hW => ⟨⟨1, (), rfl, hw, by rw [ht]; exact hP, va_K.moved hW.alike hK, hD⟩, hS.F ht⟩) hS.2.2 d_Pl_passes_277
          · replace hw := hw.2 c259
            refine lv_iload_n hx hb d_Pl_passes_262 rfl (lv_at hl 3 rfl) ?_
            refine lv_iload_n hx hb d_Pl_passes_263 rfl (lv_at hl 4 rfl) ?_
            refine lv_iconst (v := 1) hx hb d_Pl_passes_264 (by decide) ?_
            refine lv_iconst (v := 2) hx hb d_Pl_passes_265 (by decide) ?_
            have hPc := hP.sub (ws' := []) [] rfl
            have hDc := hD.sub (ws' := []) [] (by decide) rfl
            have hFc := va_free (wc := []) hD hS hA [] rfl
            refine va_calli (va_runS (As := [.int x2, .int x3, .int 1, .int 2]) (rest := []) ⟨hx, hb, hml, hown, hts⟩ (c_Pl_isPair l dC dI cI cL cB  H.size  x2 x3 1 2 _ hw) (my_cwS 4 hts kw15_5321c83 kw15_199fc92 kw15_cd65af8 kw15_4172ee0 rfl rfl (by decide +kernel) ⟨Nat.le_of_ble_eq_true rfl, Nat.le_of_ble_eq_true rfl⟩) ⟨fun a U g mk q => by obtain ⟨q0, q1, qP, qK, qD⟩ := q; exact ⟨q0, q1, qP, va_K.moved (u := U) (U := U.calling g mk a) (Vm.Alike.refl U.vm) qK, qD⟩, fun U hU hW => ⟨rfl, by rw [hU], by rw [hU]; exact hPc, va_K.moved hW.alike hK, hDc.weaken (fun _ _ _ _ => trivial)⟩⟩ rfl rfl hl.1 rfl (lv_room (Nat.le_of_ble_eq_true rfl)) d_Pl_passes_266 ⟨Nat.zero_le _, Nat.zero_le _⟩) hS (fun q _ h => hFc q h) hFc (fun r266 u t H locs ht hvm hw hB hz1 hk1 hS => ?_)
            obtain ⟨hP1, hK1, hD1⟩ := hB
            rw [ht] at hP1
            obtain ⟨hP, hD⟩ := va_join (wr := [(q_t, .inr (1, [.int v_t_things, .ref q_t_kind, .ref q_t_position, .ref q_t_told, .ref q_t_capacity, .ref q_t_amount, .ref q_t_liquid, .ref q_t_portsTaken, .ref q_t_endAtPort, .int v_t_pipes, .ref q_t_pipeLitres, .ref q_t_thingAtEnd, .ref q_t_portAtEnd, .ref q_t_bendAtEnd, .ref q_t_inPipes])), (q_t_kind, .inl (cI, 40, .inl f_t_kind)), (q_t_position, .inl (cI, 40, .inl f_t_position))]) (w1 := []) hP hD [] [0, 1, 2] rfl rfl (by decide) (by decide) hk1 hFc hP1 hD1
            have hP : va_P (dC, dI) classes [(q_t, .inr (1, [.int v_t_things, .ref q_t_kind, .ref q_t_position, .ref q_t_told, .ref q_t_capacity, .ref q_t_amount, .ref q_t_liquid, .ref q_t_portsTaken, .ref q_t_endAtPort, .int v_t_pipes, .ref q_t_pipeLitres, .ref q_t_thingAtEnd, .ref q_t_portAtEnd, .ref q_t_bendAtEnd, .ref q_t_inPipes])), (q_t_kind, .inl (cI, 40, .inl f_t_kind)), (q_t_position, .inl (cI, 40, .inl f_t_position))] H := hP.sub (ws' := [(q_t, .inr (1, [.int v_t_things, .ref q_t_kind, .ref q_t_position, .ref q_t_told, .ref q_t_capacity, .ref q_t_amount, .ref q_t_liquid, .ref q_t_portsTaken, .ref q_t_endAtPort, .int v_t_pipes, .ref q_t_pipeLitres, .ref q_t_thingAtEnd, .ref q_t_portAtEnd, .ref q_t_bendAtEnd, .ref q_t_inPipes])), (q_t_kind, .inl (cI, 40, .inl f_t_kind)), (q_t_position, .inl (cI, 40, .inl f_t_position))]) [0, 1, 2] rfl
            have hD : va_D A [(q_t, .inr (1, [.int v_t_things, .ref q_t_kind, .ref q_t_position, .ref q_t_told, .ref q_t_capacity, .ref q_t_amount, .ref q_t_liquid, .ref q_t_portsTaken, .ref q_t_endAtPort, .int v_t_pipes, .ref q_t_pipeLitres, .ref q_t_thingAtEnd, .ref q_t_portAtEnd, .ref q_t_bendAtEnd, .ref q_t_inPipes])), (q_t_kind, .inl (cI, 40, .inl f_t_kind)), (q_t_position, .inl (cI, 40, .inl f_t_position))] := hD.sub (ws' := [(q_t, .inr (1, [.int v_t_things, .ref q_t_kind, .ref q_t_position, .ref q_t_told, .ref q_t_capacity, .ref q_t_amount, .ref q_t_liquid, .ref q_t_portsTaken, .ref q_t_endAtPort, .int v_t_pipes, .ref q_t_pipeLitres, .ref q_t_thingAtEnd, .ref q_t_portAtEnd, .ref q_t_bendAtEnd, .ref q_t_inPipes])), (q_t_kind, .inl (cI, 40, .inl f_t_kind)), (q_t_position, .inl (cI, 40, .inl f_t_position))]) [0, 1, 2] (by decide) rfl
            refine lv_if_eq (tgt := 276) hx hb d_Pl_passes_269 (by decide) (fun c269 => ?_) (fun c269 => ?_)
            · replace hw := hw.1 c269
              refine lv_iconst (v := 0) hx hb d_Pl_passes_276 (by decide) ?_
              exact W.zret (v := 0) hx hb hr (by decide) (fun t ht hW => ⟨⟨0, (), rfl, hw, by rw [ht]; exact hP, va_K.moved hW.alike hK, hD⟩, hS.F ht⟩) hS.2.2 d_Pl_passes_277
            · replace hw := hw.2 c269
              refine lv_iconst (v := 1) hx hb d_Pl_passes_272 (by decide) ?_
              refine lv_goto (tgt := 277) hx hb d_Pl_passes_273 (by decide) ?_
              exact W.zret (v := 1) hx hb hr (by decide) (fun t ht hW => ⟨⟨1, (), rfl, hw, by rw [ht]; exact hP, va_K.moved hW.alike hK, hD⟩, hS.F ht⟩) hS.2.2 d_Pl_passes_277
      · replace hw := hw.2 c223
        refine lv_iload_n hx hb d_Pl_passes_226 rfl (lv_at hl 3 rfl) ?_
        refine lv_iload_n hx hb d_Pl_passes_227 rfl (lv_at hl 4 rfl) ?_
        refine lv_iconst (v := 0) hx hb d_Pl_passes_228 (by decide) ?_
        refine lv_iconst (v := 1) hx hb d_Pl_passes_229 (by decide) ?_
        have hPc := hP.sub (ws' := []) [] rfl
        have hDc := hD.sub (ws' := []) [] (by decide) rfl
        have hFc := va_free (wc := []) hD hS hA [] rfl
        refine va_calli (va_runS (As := [.int x2, .int x3, .int 0, .int 1]) (rest := []) ⟨hx, hb, hml, hown, hts⟩ (c_Pl_isPair l dC dI cI cL cB  s.heap.size  x2 x3 0 1 _ hw) (my_cwS 4 hts kw15_5321c83 kw15_199fc92 kw15_cd65af8 kw15_4172ee0 rfl rfl (by decide +kernel) ⟨Nat.le_of_ble_eq_true rfl, Nat.le_of_ble_eq_true rfl⟩) ⟨fun a U g mk q => by obtain ⟨q0, q1, qP, qK, qD⟩ := q; exact ⟨q0, q1, qP, va_K.moved (u := U) (U := U.calling g mk a) (Vm.Alike.refl U.vm) qK, qD⟩, fun U hU hW => ⟨rfl, by rw [hU], by rw [hU]; exact hPc, va_K.moved hW.alike hK, hDc.weaken (fun _ _ _ _ => trivial)⟩⟩ rfl rfl hl.1 rfl (lv_room (Nat.le_of_ble_eq_true rfl)) d_Pl_passes_230 ⟨Nat.zero_le _, Nat.zero_le _⟩) hS (fun q _ h => hFc q h) hFc (fun r230 u t H locs ht hvm hw hB hz1 hk1 hS => ?_)
        obtain ⟨hP1, hK1, hD1⟩ := hB
        rw [ht] at hP1
        obtain ⟨hP, hD⟩ := va_join (wr := [(q_t, .inr (1, [.int v_t_things, .ref q_t_kind, .ref q_t_position, .ref q_t_told, .ref q_t_capacity, .ref q_t_amount, .ref q_t_liquid, .ref q_t_portsTaken, .ref q_t_endAtPort, .int v_t_pipes, .ref q_t_pipeLitres, .ref q_t_thingAtEnd, .ref q_t_portAtEnd, .ref q_t_bendAtEnd, .ref q_t_inPipes])), (q_t_kind, .inl (cI, 40, .inl f_t_kind)), (q_t_position, .inl (cI, 40, .inl f_t_position))]) (w1 := []) hP hD [] [0, 1, 2] rfl rfl (by decide) (by decide) hk1 hFc hP1 hD1
        have hP : va_P (dC, dI) classes [(q_t, .inr (1, [.int v_t_things, .ref q_t_kind, .ref q_t_position, .ref q_t_told, .ref q_t_capacity, .ref q_t_amount, .ref q_t_liquid, .ref q_t_portsTaken, .ref q_t_endAtPort, .int v_t_pipes, .ref q_t_pipeLitres, .ref q_t_thingAtEnd, .ref q_t_portAtEnd, .ref q_t_bendAtEnd, .ref q_t_inPipes])), (q_t_kind, .inl (cI, 40, .inl f_t_kind)), (q_t_position, .inl (cI, 40, .inl f_t_position))] H := hP.sub (ws' := [(q_t, .inr (1, [.int v_t_things, .ref q_t_kind, .ref q_t_position, .ref q_t_told, .ref q_t_capacity, .ref q_t_amount, .ref q_t_liquid, .ref q_t_portsTaken, .ref q_t_endAtPort, .int v_t_pipes, .ref q_t_pipeLitres, .ref q_t_thingAtEnd, .ref q_t_portAtEnd, .ref q_t_bendAtEnd, .ref q_t_inPipes])), (q_t_kind, .inl (cI, 40, .inl f_t_kind)), (q_t_position, .inl (cI, 40, .inl f_t_position))]) [0, 1, 2] rfl
        have hD : va_D A [(q_t, .inr (1, [.int v_t_things, .ref q_t_kind, .ref q_t_position, .ref q_t_told, .ref q_t_capacity, .ref q_t_amount, .ref q_t_liquid, .ref q_t_portsTaken, .ref q_t_endAtPort, .int v_t_pipes, .ref q_t_pipeLitres, .ref q_t_thingAtEnd, .ref q_t_portAtEnd, .ref q_t_bendAtEnd, .ref q_t_inPipes])), (q_t_kind, .inl (cI, 40, .inl f_t_kind)), (q_t_position, .inl (cI, 40, .inl f_t_position))] := hD.sub (ws' := [(q_t, .inr (1, [.int v_t_things, .ref q_t_kind, .ref q_t_position, .ref q_t_told, .ref q_t_capacity, .ref q_t_amount, .ref q_t_liquid, .ref q_t_portsTaken, .ref q_t_endAtPort, .int v_t_pipes, .ref q_t_pipeLitres, .ref q_t_thingAtEnd, .ref q_t_portAtEnd, .ref q_t_bendAtEnd, .ref q_t_inPipes])), (q_t_kind, .inl (cI, 40, .inl f_t_kind)), (q_t_position, .inl (cI, 40, .inl f_t_position))]) [0, 1, 2] (by decide) rfl
        refine lv_if_ne (tgt := 272) hx hb d_Pl_passes_233 (by decide) (fun c233 => ?_) (fun c233 => ?_)
        · replace hw := hw.1 c233
          refine lv_iconst (v := 1) hx hb d_Pl_passes_272 (by decide) ?_
          refine lv_goto (tgt := 277) hx hb d_Pl_passes_273 (by decide) ?_
          exact W.zret (v := 1) hx hb hr (by decide) (fun t ht hW => ⟨⟨1, (), rfl, hw, by rw [ht]; exact hP, va_K.moved hW.alike hK, hD⟩, hS.F ht⟩) hS.2.2 d_Pl_passes_277
        · replace hw := hw.2 c233
          refine lv_iload_n hx hb d_Pl_passes_236 rfl (lv_at hl 3 rfl) ?_
          refine lv_iload_n hx hb d_Pl_passes_237 rfl (lv_at hl 4 rfl) ?_
          refine lv_iconst (v := 2) hx hb d_Pl_passes_238 (by decide) ?_
          refine lv_iconst (v := 3) hx hb d_Pl_passes_239 (by decide) ?_
          have hPc := hP.sub (ws' := []) [] rfl
          have hDc := hD.sub (ws' := []) [] (by decide) rfl
          have hFc := va_free (wc := []) hD hS hA [] rfl
          refine va_calli (va_runS (As := [.int x2, .int x3, .int 2, .int 3]) (rest := []) ⟨hx, hb, hml, hown, hts⟩ (c_Pl_isPair l dC dI cI cL cB  H.size  x2 x3 2 3 _ hw) (my_cwS 4 hts kw15_5321c83 kw15_199fc92 kw15_cd65af8 kw15_4172ee0 rfl rfl (by decide +kernel) ⟨Nat.le_of_ble_eq_true rfl, Nat.le_of_ble_eq_true rfl⟩) ⟨fun a U g mk q => by obtain ⟨q0, q1, qP, qK, qD⟩ := q; exact ⟨q0, q1, qP, va_K.moved (u := U) (U := U.calling g mk a) (Vm.Alike.refl U.vm) qK, qD⟩, fun U hU hW => ⟨rfl, by rw [hU], by rw [hU]; exact hPc, va_K.moved hW.alike hK, hDc.weaken (fun _ _ _ _ => trivial)⟩⟩ rfl rfl hl.1 rfl (lv_room (Nat.le_of_ble_eq_true rfl)) d_Pl_passes_240 ⟨Nat.zero_le _, Nat.zero_le _⟩) hS (fun q _ h => hFc q h) hFc (fun r240 u t H locs ht hvm hw hB hz1 hk1 hS => ?_)
          obtain ⟨hP1, hK1, hD1⟩ := hB
          rw [ht] at hP1
          obtain ⟨hP, hD⟩ := va_join (wr := [(q_t, .inr (1, [.int v_t_things, .ref q_t_kind, .ref q_t_position, .ref q_t_told, .ref q_t_capacity, .ref q_t_amount, .ref q_t_liquid, .ref q_t_portsTaken, .ref q_t_endAtPort, .int v_t_pipes, .ref q_t_pipeLitres, .ref q_t_thingAtEnd, .ref q_t_portAtEnd, .ref q_t_bendAtEnd, .ref q_t_inPipes])), (q_t_kind, .inl (cI, 40, .inl f_t_kind)), (q_t_position, .inl (cI, 40, .inl f_t_position))]) (w1 := []) hP hD [] [0, 1, 2] rfl rfl (by decide) (by decide) hk1 hFc hP1 hD1
          have hP : va_P (dC, dI) classes [(q_t, .inr (1, [.int v_t_things, .ref q_t_kind, .ref q_t_position, .ref q_t_told, .ref q_t_capacity, .ref q_t_amount, .ref q_t_liquid, .ref q_t_portsTaken, .ref q_t_endAtPort, .int v_t_pipes, .ref q_t_pipeLitres, .ref q_t_thingAtEnd, .ref q_t_portAtEnd, .ref q_t_bendAtEnd, .ref q_t_inPipes])), (q_t_kind, .inl (cI, 40, .inl f_t_kind)), (q_t_position, .inl (cI, 40, .inl f_t_position))] H := hP.sub (ws' := [(q_t, .inr (1, [.int v_t_things, .ref q_t_kind, .ref q_t_position, .ref q_t_told, .ref q_t_capacity, .ref q_t_amount, .ref q_t_liquid, .ref q_t_portsTaken, .ref q_t_endAtPort, .int v_t_pipes, .ref q_t_pipeLitres, .ref q_t_thingAtEnd, .ref q_t_portAtEnd, .ref q_t_bendAtEnd, .ref q_t_inPipes])), (q_t_kind, .inl (cI, 40, .inl f_t_kind)), (q_t_position, .inl (cI, 40, .inl f_t_position))]) [0, 1, 2] rfl
          have hD : va_D A [(q_t, .inr (1, [.int v_t_things, .ref q_t_kind, .ref q_t_position, .ref q_t_told, .ref q_t_capacity, .ref q_t_amount, .ref q_t_liquid, .ref q_t_portsTaken, .ref q_t_endAtPort, .int v_t_pipes, .ref q_t_pipeLitres, .ref q_t_thingAtEnd, .ref q_t_portAtEnd, .ref q_t_bendAtEnd, .ref q_t_inPipes])), (q_t_kind, .inl (cI, 40, .inl f_t_kind)), (q_t_position, .inl (cI, 40, .inl f_t_position))] := hD.sub (ws' := [(q_t, .inr (1, [.int v_t_things, .ref q_t_kind, .ref q_t_position, .ref q_t_told, .ref q_t_capacity, .ref q_t_amount, .ref q_t_liquid, .ref q_t_portsTaken, .ref q_t_endAtPort, .int v_t_pipes, .ref q_t_pipeLitres, .ref q_t_thingAtEnd, .ref q_t_portAtEnd, .ref q_t_bendAtEnd, .ref q_t_inPipes])), (q_t_kind, .inl (cI, 40, .inl f_t_kind)), (q_t_position, .inl (cI, 40, .inl f_t_position))]) [0, 1, 2] (by decide) rfl
          refine lv_if_ne (tgt := 272) hx hb d_Pl_passes_243 (by decide) (fun c243 => ?_) (fun c243 => ?_)
          · replace hw := hw.1 c243
            refine lv_iconst (v := 1) hx hb d_Pl_passes_272 (by decide) ?_
            refine lv_goto (tgt := 277) hx hb d_Pl_passes_273 (by decide) ?_
            exact W.zret (v := 1) hx hb hr (by decide) (fun t ht hW => ⟨⟨1, (), rfl, hw, by rw [ht]; exact hP, va_K.moved hW.alike hK, hD⟩, hS.F ht⟩) hS.2.2 d_Pl_passes_277
          · replace hw := hw.2 c243
            refine lv_iload hx hb d_Pl_passes_246 (lv_at hl 0 rfl) ?_
            refine lv_iconst (v := 1) hx hb d_Pl_passes_248 (by decide) ?_
            refine lv_icmp_ne (tgt := 276) hx hb d_Pl_passes_249 (by decide) (fun c249 => ?_) (fun c249 => ?_)
            · replace hw := hw.1 c249
              refine lv_iconst (v := 0) hx hb d_Pl_passes_276 (by decide) ?_
              exact W.zret (v := 0) hx hb hr (by decide) (fun t ht hW => ⟨⟨0, (), rfl, hw, by rw [ht]; exact hP, va_K.moved hW.alike hK, hD⟩, hS.F ht⟩) hS.2.2 d_Pl_passes_277
            · replace hw := hw.2 c249
              refine lv_iload_n hx hb d_Pl_passes_252 rfl (lv_at hl 3 rfl) ?_
              refine lv_iload_n hx hb d_Pl_passes_253 rfl (lv_at hl 4 rfl) ?_
              refine lv_iconst (v := 0) hx hb d_Pl_passes_254 (by decide) ?_
              refine lv_iconst (v := 3) hx hb d_Pl_passes_255 (by decide) ?_
              have hPc := hP.sub (ws' := []) [] rfl
              have hDc := hD.sub (ws' := []) [] (by decide) rfl
              have hFc := va_free (wc := []) hD hS hA [] rfl
              refine va_calli (va_runS (As := [.int x2, .int x3, .int 0, .int 3]) (rest := []) ⟨hx, hb, hml, hown, hts⟩ (c_Pl_isPair l dC dI cI cL cB  H.size  x2 x3 0 3 _ hw) (my_cwS 4 hts kw15_5321c83 kw15_199fc92 kw15_cd65af8 kw15_4172ee0 rfl rfl (by decide +kernel) ⟨Nat.le_of_ble_eq_true rfl, Nat.le_of_ble_eq_true rfl⟩) ⟨fun a U g mk q => by obtain ⟨q0, q1, qP, qK, qD⟩ := q; exact ⟨q0, q1, qP, va_K.moved (u := U) (U := U.calling g mk a) (Vm.Alike.refl U.vm) qK, qD⟩, fun U hU hW => ⟨rfl, by rw [hU], by rw [hU]; exact hPc, va_K.moved hW.alike hK, hDc.weaken (fun _ _ _ _ => trivial)⟩⟩ rfl rfl hl.1 rfl (lv_room (Nat.le_of_ble_eq_true rfl)) d_Pl_passes_256 ⟨Nat.zero_le _, Nat.zero_le _⟩) hS (fun q _ h => hFc q h) hFc (fun r256 u t H locs ht hvm hw hB hz1 hk1 hS => ?_)
              obtain ⟨hP1, hK1, hD1⟩ := hB
              rw [ht] at hP1
              obtain ⟨hP, hD⟩ := va_join (wr := [(q_t, .inr (1, [.int v_t_things, .ref q_t_kind, .ref q_t_position, .ref q_t_told, .ref q_t_capacity, .ref q_t_amount, .ref q_t_liquid, .ref q_t_portsTaken, .ref q_t_endAtPort, .int v_t_pipes, .ref q_t_pipeLitres, .ref q_t_thingAtEnd, .ref q_t_portAtEnd, .ref q_t_bendAtEnd, .ref q_t_inPipes])), (q_t_kind, .inl (cI, 40, .inl f_t_kind)), (q_t_position, .inl (cI, 40, .inl f_t_position))]) (w1 := []) hP hD [] [0, 1, 2] rfl rfl (by decide) (by decide) hk1 hFc hP1 hD1
              have hP : va_P (dC, dI) classes [(q_t, .inr (1, [.int v_t_things, .ref q_t_kind, .ref q_t_position, .ref q_t_told, .ref q_t_capacity, .ref q_t_amount, .ref q_t_liquid, .ref q_t_portsTaken, .ref q_t_endAtPort, .int v_t_pipes, .ref q_t_pipeLitres, .ref q_t_thingAtEnd, .ref q_t_portAtEnd, .ref q_t_bendAtEnd, .ref q_t_inPipes])), (q_t_kind, .inl (cI, 40, .inl f_t_kind)), (q_t_position, .inl (cI, 40, .inl f_t_position))] H := hP.sub (ws' := [(q_t, .inr (1, [.int v_t_things, .ref q_t_kind, .ref q_t_position, .ref q_t_told, .ref q_t_capacity, .ref q_t_amount, .ref q_t_liquid, .ref q_t_portsTaken, .ref q_t_endAtPort, .int v_t_pipes, .ref q_t_pipeLitres, .ref q_t_thingAtEnd, .ref q_t_portAtEnd, .ref q_t_bendAtEnd, .ref q_t_inPipes])), (q_t_kind, .inl (cI, 40, .inl f_t_kind)), (q_t_position, .inl (cI, 40, .inl f_t_position))]) [0, 1, 2] rfl
              have hD : va_D A [(q_t, .inr (1, [.int v_t_things, .ref q_t_kind, .ref q_t_position, .ref q_t_told, .ref q_t_capacity, .ref q_t_amount, .ref q_t_liquid, .ref q_t_portsTaken, .ref q_t_endAtPort, .int v_t_pipes, .ref q_t_pipeLitres, .ref q_t_thingAtEnd, .ref q_t_portAtEnd, .ref q_t_bendAtEnd, .ref q_t_inPipes])), (q_t_kind, .inl (cI, 40, .inl f_t_kind)), (q_t_position, .inl (cI, 40, .inl f_t_position))] := hD.sub (ws' := [(q_t, .inr (1, [.int v_t_things, .ref q_t_kind, .ref q_t_position, .ref q_t_told, .ref q_t_capacity, .ref q_t_amount, .ref q_t_liquid, .ref q_t_portsTaken, .ref q_t_endAtPort, .int v_t_pipes, .ref q_t_pipeLitres, .ref q_t_thingAtEnd, .ref q_t_portAtEnd, .ref q_t_bendAtEnd, .ref q_t_inPipes])), (q_t_kind, .inl (cI, 40, .inl f_t_kind)), (q_t_position, .inl (cI, 40, .inl f_t_position))]) [0, 1, 2] (by decide) rfl
              refine lv_if_ne (tgt := 272) hx hb d_Pl_passes_259 (by decide) (fun c259 => ?_) (fun c259 => ?_)
              · replace hw := hw.1 c259
                refine lv_iconst (v := 1) hx hb d_Pl_passes_272 (by decide) ?_
                refine lv_goto (tgt := 277) hx hb d_Pl_passes_273 (by decide) ?_
                exact W.zret (v := 1) hx hb hr (by decide) (fun t ht hW => ⟨⟨1, (), rfl, hw, by rw [ht]; exact hP, va_K.moved hW.alike hK, hD⟩, hS.F ht⟩) hS.2.2 d_Pl_passes_277
              · replace hw := hw.2 c259
                refine lv_iload_n hx hb d_Pl_passes_262 rfl (lv_at hl 3 rfl) ?_
                refine lv_iload_n hx hb d_Pl_passes_263 rfl (lv_at hl 4 rfl) ?_
                refine lv_iconst (v := 1) hx hb d_Pl_passes_264 (by decide) ?_
                refine lv_iconst (v := 2) hx hb d_Pl_passes_265 (by decide) ?_
                have hPc := hP.sub (ws' := []) [] rfl
                have hDc := hD.sub (ws' := []) [] (by decide) rfl
                have hFc := va_free (wc := []) hD hS hA [] rfl
                refine va_calli (va_runS (As := [.int x2, .int x3, .int 1, .int 2]) (rest := []) ⟨hx, hb, hml, hown, hts⟩ (c_Pl_isPair l dC dI cI cL cB  H.size  x2 x3 1 2 _ hw) (my_cwS 4 hts kw15_5321c83 kw15_199fc92 kw15_cd65af8 kw15_4172ee0 rfl rfl (by decide +kernel) ⟨Nat.le_of_ble_eq_true rfl, Nat.le_of_ble_eq_true rfl⟩) ⟨fun a U g mk q => by obtain ⟨q0, q1, qP, qK, qD⟩ := q; exact ⟨q0, q1, qP, va_K.moved (u := U) (U := U.calling g mk a) (Vm.Alike.refl U.vm) qK, qD⟩, fun U hU hW => ⟨rfl, by rw [hU], by rw [hU]; exact hPc, va_K.moved hW.alike hK, hDc.weaken (fun _ _ _ _ => trivial)⟩⟩ rfl rfl hl.1 rfl (lv_room (Nat.le_of_ble_eq_true rfl)) d_Pl_passes_266 ⟨Nat.zero_le _, Nat.zero_le _⟩) hS (fun q _ h => hFc q h) hFc (fun r266 u t H locs ht hvm hw hB hz1 hk1 hS => ?_)
                obtain ⟨hP1, hK1, hD1⟩ := hB
                rw [ht] at hP1
                obtain ⟨hP, hD⟩ := va_join (wr := [(q_t, .inr (1, [.int v_t_things, .ref q_t_kind, .ref q_t_position, .ref q_t_told, .ref q_t_capacity, .ref q_t_amount, .ref q_t_liquid, .ref q_t_portsTaken, .ref q_t_endAtPort, .int v_t_pipes, .ref q_t_pipeLitres, .ref q_t_thingAtEnd, .ref q_t_portAtEnd, .ref q_t_bendAtEnd, .ref q_t_inPipes])), (q_t_kind, .inl (cI, 40, .inl f_t_kind)), (q_t_position, .inl (cI, 40, .inl f_t_position))]) (w1 := []) hP hD [] [0, 1, 2] rfl rfl (by decide) (by decide) hk1 hFc hP1 hD1
                have hP : va_P (dC, dI) classes [(q_t, .inr (1, [.int v_t_things, .ref q_t_kind, .ref q_t_position, .ref q_t_told, .ref q_t_capacity, .ref q_t_amount, .ref q_t_liquid, .ref q_t_portsTaken, .ref q_t_endAtPort, .int v_t_pipes, .ref q_t_pipeLitres, .ref q_t_thingAtEnd, .ref q_t_portAtEnd, .ref q_t_bendAtEnd, .ref q_t_inPipes])), (q_t_kind, .inl (cI, 40, .inl f_t_kind)), (q_t_position, .inl (cI, 40, .inl f_t_position))] H := hP.sub (ws' := [(q_t, .inr (1, [.int v_t_things, .ref q_t_kind, .ref q_t_position, .ref q_t_told, .ref q_t_capacity, .ref q_t_amount, .ref q_t_liquid, .ref q_t_portsTaken, .ref q_t_endAtPort, .int v_t_pipes, .ref q_t_pipeLitres, .ref q_t_thingAtEnd, .ref q_t_portAtEnd, .ref q_t_bendAtEnd, .ref q_t_inPipes])), (q_t_kind, .inl (cI, 40, .inl f_t_kind)), (q_t_position, .inl (cI, 40, .inl f_t_position))]) [0, 1, 2] rfl
                have hD : va_D A [(q_t, .inr (1, [.int v_t_things, .ref q_t_kind, .ref q_t_position, .ref q_t_told, .ref q_t_capacity, .ref q_t_amount, .ref q_t_liquid, .ref q_t_portsTaken, .ref q_t_endAtPort, .int v_t_pipes, .ref q_t_pipeLitres, .ref q_t_thingAtEnd, .ref q_t_portAtEnd, .ref q_t_bendAtEnd, .ref q_t_inPipes])), (q_t_kind, .inl (cI, 40, .inl f_t_kind)), (q_t_position, .inl (cI, 40, .inl f_t_position))] := hD.sub (ws' := [(q_t, .inr (1, [.int v_t_things, .ref q_t_kind, .ref q_t_position, .ref q_t_told, .ref q_t_capacity, .ref q_t_amount, .ref q_t_liquid, .ref q_t_portsTaken, .ref q_t_endAtPort, .int v_t_pipes, .ref q_t_pipeLitres, .ref q_t_thingAtEnd, .ref q_t_portAtEnd, .ref q_t_bendAtEnd, .ref q_t_inPipes])), (q_t_kind, .inl (cI, 40, .inl f_t_kind)), (q_t_position, .inl (cI, 40, .inl f_t_position))]) [0, 1, 2] (by decide) rfl
                refine lv_if_eq (tgt := 276) hx hb d_Pl_passes_269 (by decide) (fun c269 => ?_) (fun c269 => ?_)
                · replace hw := hw.1 c269
                  refine lv_iconst (v := 0) hx hb d_Pl_passes_276 (by decide) ?_
                  exact W.zret (v := 0) hx hb hr (by decide) (fun t ht hW => ⟨⟨0, (), rfl, hw, by rw [ht]; exact hP, va_K.moved hW.alike hK, hD⟩, hS.F ht⟩) hS.2.2 d_Pl_passes_277
                · replace hw := hw.2 c269
                  refine lv_iconst (v := 1) hx hb d_Pl_passes_272 (by decide) ?_
                  refine lv_goto (tgt := 277) hx hb d_Pl_passes_273 (by decide) ?_
                  exact W.zret (v := 1) hx hb hr (by decide) (fun t ht hW => ⟨⟨1, (), rfl, hw, by rw [ht]; exact hP, va_K.moved hW.alike hK, hD⟩, hS.F ht⟩) hS.2.2 d_Pl_passes_277
    replace hw := hw.2 c21_6
    by_cases c21_7 : (f_t_kind x1.toNatClampNeg) = 7
    · replace hw := hw.1 c21_7
      refine lv_tableIn (tgt := 278) hx hb d_Pl_passes_21 (by rw [c21_7]; decide) (by rw [c21_7]; decide) (by rw [c21_7]; rfl) (by decide) ?_
      refine lv_iload hx hb d_Pl_passes_278 (lv_at hl 0 rfl) ?_
      refine lv_if_eq (tgt := 287) hx hb d_Pl_passes_280 (by decide) (fun c280 => ?_) (fun c280 => ?_)
      · replace hw := hw.1 c280
        refine lv_iconst (v := 0) hx hb d_Pl_passes_287 (by decide) ?_
        exact W.zret (v := 0) hx hb hr (by decide) (fun t ht hW => ⟨⟨0, (), rfl, hw, by rw [ht]; exact hP, va_K.moved hW.alike hK, hD⟩, hS.F ht⟩) hS.2.2 d_Pl_passes_288
      · replace hw := hw.2 c280
        refine lv_iconst (v := 1) hx hb d_Pl_passes_283 (by decide) ?_
        refine lv_goto (tgt := 288) hx hb d_Pl_passes_284 (by decide) ?_
        exact W.zret (v := 1) hx hb hr (by decide) (fun t ht hW => ⟨⟨1, (), rfl, hw, by rw [ht]; exact hP, va_K.moved hW.alike hK, hD⟩, hS.F ht⟩) hS.2.2 d_Pl_passes_288
    replace hw := hw.2 c21_7
    by_cases c21_8 : (f_t_kind x1.toNatClampNeg) = 8
    · replace hw := hw.1 c21_8
      refine lv_tableIn (tgt := 289) hx hb d_Pl_passes_21 (by rw [c21_8]; decide) (by rw [c21_8]; decide) (by rw [c21_8]; rfl) (by decide) ?_
      refine lv_iload hx hb d_Pl_passes_289 (lv_at hl 0 rfl) ?_
      refine lv_iconst (v := 1) hx hb d_Pl_passes_291 (by decide) ?_
      refine lv_icmp_ne (tgt := 303) hx hb d_Pl_passes_292 (by decide) (fun c292 => ?_) (fun c292 => ?_)
      · replace hw := hw.1 c292
        refine lv_iconst (v := 0) hx hb d_Pl_passes_303 (by decide) ?_
        exact W.zret (v := 0) hx hb hr (by decide) (fun t ht hW => ⟨⟨0, (), rfl, hw, by rw [ht]; exact hP, va_K.moved hW.alike hK, hD⟩, hS.F ht⟩) hS.2.2 d_Pl_passes_304
      · replace hw := hw.2 c292
        refine lv_iload_n hx hb d_Pl_passes_295 rfl (lv_at hl 3 rfl) ?_
        refine lv_if_ne (tgt := 303) hx hb d_Pl_passes_296 (by decide) (fun c296 => ?_) (fun c296 => ?_)
        · replace hw := hw.1 c296
          refine lv_iconst (v := 0) hx hb d_Pl_passes_303 (by decide) ?_
          exact W.zret (v := 0) hx hb hr (by decide) (fun t ht hW => ⟨⟨0, (), rfl, hw, by rw [ht]; exact hP, va_K.moved hW.alike hK, hD⟩, hS.F ht⟩) hS.2.2 d_Pl_passes_304
        · replace hw := hw.2 c296
          refine lv_iconst (v := 1) hx hb d_Pl_passes_299 (by decide) ?_
          refine lv_goto (tgt := 304) hx hb d_Pl_passes_300 (by decide) ?_
          exact W.zret (v := 1) hx hb hr (by decide) (fun t ht hW => ⟨⟨1, (), rfl, hw, by rw [ht]; exact hP, va_K.moved hW.alike hK, hD⟩, hS.F ht⟩) hS.2.2 d_Pl_passes_304
    replace hw := hw.2 c21_8
    by_cases c21_9 : (f_t_kind x1.toNatClampNeg) = 9
    · replace hw := hw.1 c21_9
      refine lv_tableIn (tgt := 305) hx hb d_Pl_passes_21 (by rw [c21_9]; decide) (by rw [c21_9]; decide) (by rw [c21_9]; rfl) (by decide) ?_
      refine lv_iload_n hx hb d_Pl_passes_305 rfl (lv_at hl 3 rfl) ?_
      refine lv_if_ne (tgt := 313) hx hb d_Pl_passes_306 (by decide) (fun c306 => ?_) (fun c306 => ?_)
      · replace hw := hw.1 c306
        refine lv_iconst (v := 0) hx hb d_Pl_passes_313 (by decide) ?_
        exact W.zret (v := 0) hx hb hr (by decide) (fun t ht hW => ⟨⟨0, (), rfl, hw, by rw [ht]; exact hP, va_K.moved hW.alike hK, hD⟩, hS.F ht⟩) hS.2.2 d_Pl_passes_314
      · replace hw := hw.2 c306
        refine lv_iconst (v := 1) hx hb d_Pl_passes_309 (by decide) ?_
        refine lv_goto (tgt := 314) hx hb d_Pl_passes_310 (by decide) ?_
        exact W.zret (v := 1) hx hb hr (by decide) (fun t ht hW => ⟨⟨1, (), rfl, hw, by rw [ht]; exact hP, va_K.moved hW.alike hK, hD⟩, hS.F ht⟩) hS.2.2 d_Pl_passes_314
    replace hw := hw.2 c21_9
    refine lv_tableOut (tgt := 315) hx hb d_Pl_passes_21 (by have z0 := lv_neT c21_0 (a := 0) (by decide); have z1 := lv_neT c21_1 (a := 1) (by decide); have z2 := lv_neT c21_2 (a := 2) (by decide); have z3 := lv_neT c21_3 (a := 3) (by decide); have z4 := lv_neT c21_4 (a := 4) (by decide); have z5 := lv_neT c21_5 (a := 5) (by decide); have z6 := lv_neT c21_6 (a := 6) (by decide); have z7 := lv_neT c21_7 (a := 7) (by decide); have z8 := lv_neT c21_8 (a := 8) (by decide); have z9 := lv_neT c21_9 (a := 9) (by decide); omega) (by decide) ?_
    refine lv_iconst (v := 0) hx hb d_Pl_passes_315 (by decide) ?_
    exact W.zret (v := 0) hx hb hr (by decide) (fun t ht hW => ⟨⟨0, (), rfl, hw, by rw [ht]; exact hP, va_K.moved hW.alike hK, hD⟩, hS.F ht⟩) hS.2.2 d_Pl_passes_316
  · replace hw := hw.2 c2
    refine lv_iconst (v := 0) hx hb d_Pl_passes_5 (by decide) ?_
    exact W.zret (v := 0) hx hb hr (by decide) (fun t ht hW => ⟨⟨0, (), rfl, hw, by rw [ht]; exact hP, va_K.moved hW.alike hK, hD⟩, hS.F ht⟩) hS.2.2 d_Pl_passes_6
def wp_Pl_roomIn (f_t_capacity : (Nat → Int32)) (f_t_amount : (Nat → Int32)) (x1 : Int32) (P : Int32 → Prop) : Prop := (vp_in x1 40 ∧ (vp_in x1 40 ∧ P ((f_t_capacity x1.toNatClampNeg) - (f_t_amount x1.toNatClampNeg))))
def w_Pl_roomIn : List Cond := .code y_Pl_roomIn b_Pl_roomIn 2 (some .int) :: tb
abbrev rm_Pl_roomIn : Room := { frames := 0, cells := 0, slots := 0, locals := 0 }
abbrev Q_Pl_roomIn (dC : Nat → ClassId) (dI : Nat → Nat → Nat) (cI cL cB : ClassId) (q_t : Nat) (q_t_kind : Nat) (q_t_position : Nat) (q_t_told : Nat) (q_t_capacity : Nat) (q_t_amount : Nat) (q_t_liquid : Nat) (q_t_portsTaken : Nat) (q_t_endAtPort : Nat) (q_t_pipeLitres : Nat) (q_t_thingAtEnd : Nat) (q_t_portAtEnd : Nat) (q_t_bendAtEnd : Nat) (q_t_inPipes : Nat) (v_t_things : Int32) (v_t_pipes : Int32) (f_t_capacity : (Nat → Int32)) (f_t_amount : (Nat → Int32)) (x1 : Int32) (P : Int32 → Prop) (A : Nat → Prop) : Array Value → State → Outcome → State → Prop := va_Qi (fun (r : Int32) (u : Unit) => P r) (fun u t => va_P (dC, dI) classes [(q_t, .inr (1, [.int v_t_things, .ref q_t_kind, .ref q_t_position, .ref q_t_told, .ref q_t_capacity, .ref q_t_amount, .ref q_t_liquid, .ref q_t_portsTaken, .ref q_t_endAtPort, .int v_t_pipes, .ref q_t_pipeLitres, .ref q_t_thingAtEnd, .ref q_t_portAtEnd, .ref q_t_bendAtEnd, .ref q_t_inPipes])), (q_t_capacity, .inl (cI, 40, .inl f_t_capacity)), (q_t_amount, .inl (cI, 40, .inl f_t_amount))] t.heap ∧ va_K (dC, dI) classes [(cI, .int), (cL, .long), (cB, .byte)] t ∧ va_D A [(q_t, .inr (1, [.int v_t_things, .ref q_t_kind, .ref q_t_position, .ref q_t_told, .ref q_t_capacity, .ref q_t_amount, .ref q_t_liquid, .ref q_t_portsTaken, .ref q_t_endAtPort, .int v_t_pipes, .ref q_t_pipeLitres, .ref q_t_thingAtEnd, .ref q_t_portAtEnd, .ref q_t_bendAtEnd, .ref q_t_inPipes])), (q_t_capacity, .inl (cI, 40, .inl f_t_capacity)), (q_t_amount, .inl (cI, 40, .inl f_t_amount))]) A
set_option maxHeartbeats 4000000 in
set_option maxRecDepth 100000 in
theorem c_Pl_roomIn (l : Launch) (dC : Nat → ClassId) (dI : Nat → Nat → Nat) (cI cL cB : ClassId) (q_t : Nat) (q_t_kind : Nat) (q_t_position : Nat) (q_t_told : Nat) (q_t_capacity : Nat) (q_t_amount : Nat) (q_t_liquid : Nat) (q_t_portsTaken : Nat) (q_t_endAtPort : Nat) (q_t_pipeLitres : Nat) (q_t_thingAtEnd : Nat) (q_t_portAtEnd : Nat) (q_t_bendAtEnd : Nat) (q_t_inPipes : Nat) (sz : Nat) (v_t_things : Int32) (v_t_pipes : Int32) (f_t_capacity : (Nat → Int32)) (f_t_amount : (Nat → Int32)) (x1 : Int32) (P : Int32 → Prop) (hw : wp_Pl_roomIn f_t_capacity f_t_amount x1 P) : Met l y_Pl_roomIn w_Pl_roomIn rm_Pl_roomIn (va_Pc [.ref q_t, .int x1] (fun U => U.heap.size = sz ∧ va_P (dC, dI) classes [(q_t, .inr (1, [.int v_t_things, .ref q_t_kind, .ref q_t_position, .ref q_t_told, .ref q_t_capacity, .ref q_t_amount, .ref q_t_liquid, .ref q_t_portsTaken, .ref q_t_endAtPort, .int v_t_pipes, .ref q_t_pipeLitres, .ref q_t_thingAtEnd, .ref q_t_portAtEnd, .ref q_t_bendAtEnd, .ref q_t_inPipes])), (q_t_capacity, .inl (cI, 40, .inl f_t_capacity)), (q_t_amount, .inl (cI, 40, .inl f_t_amount))] U.heap ∧ va_K (dC, dI) classes [(cI, .int), (cL, .long), (cB, .byte)] U ∧ va_D (fun _ => True) [(q_t, .inr (1, [.int v_t_things, .ref q_t_kind, .ref q_t_position, .ref q_t_told, .ref q_t_capacity, .ref q_t_amount, .ref q_t_liquid, .ref q_t_portsTaken, .ref q_t_endAtPort, .int v_t_pipes, .ref q_t_pipeLitres, .ref q_t_thingAtEnd, .ref q_t_portAtEnd, .ref q_t_bendAtEnd, .ref q_t_inPipes])), (q_t_capacity, .inl (cI, 40, .inl f_t_capacity)), (q_t_amount, .inl (cI, 40, .inl f_t_amount))])) (Q_Pl_roomIn dC dI cI cL cB q_t q_t_kind q_t_position q_t_told q_t_capacity q_t_amount q_t_liquid q_t_portsTaken q_t_endAtPort q_t_pipeLitres q_t_thingAtEnd q_t_portAtEnd q_t_bendAtEnd q_t_inPipes v_t_things v_t_pipes f_t_capacity f_t_amount x1 P (va_A [(q_t, .inr (1, [.int v_t_things, .ref q_t_kind, .ref q_t_position, .ref q_t_told, .ref q_t_capacity, .ref q_t_amount, .ref q_t_liquid, .ref q_t_portsTaken, .ref q_t_endAtPort, .int v_t_pipes, .ref q_t_pipeLitres, .ref q_t_thingAtEnd, .ref q_t_portAtEnd, .ref q_t_bendAtEnd, .ref q_t_inPipes])), (q_t_capacity, .inl (cI, 40, .inl f_t_capacity)), (q_t_amount, .inl (cI, 40, .inl f_t_amount))] sz)) 0 0 (va_A [(q_t, .inr (1, [.int v_t_things, .ref q_t_kind, .ref q_t_position, .ref q_t_told, .ref q_t_capacity, .ref q_t_amount, .ref q_t_liquid, .ref q_t_portsTaken, .ref q_t_endAtPort, .int v_t_pipes, .ref q_t_pipeLitres, .ref q_t_thingAtEnd, .ref q_t_portAtEnd, .ref q_t_bendAtEnd, .ref q_t_inPipes])), (q_t_capacity, .inl (cI, 40, .inl f_t_capacity)), (q_t_amount, .inl (cI, 40, .inl f_t_amount))] sz) := by
  refine Met.ofW (cc := b_Pl_roomIn) (maxL := 2) (ret := (some .int)) (by decide) rfl ?_
  intro p e s m args below meth c s₁ B hml hv
  obtain ⟨ha, hsz, hP, hK, hD0⟩ := hv
  have hx := B.exec
  have hb := B.bytes
  have hr := B.returns
  have hts0 := atoms_spec (ws := w_Pl_roomIn) B.pre
  have hts : ∀ w ∈ tb, w.before args s = true := fun w h => hts0 w (List.mem_cons_of_mem _ h)
  have hown : s.vm.findClass R_Pl = some m.cls := findClass_of_methodNamed B.named
  have hlocks := B.notSynchronized
  subst hsz
  have hD := hD0.self (sz := s.heap.size)
  generalize hAe : va_A [(q_t, .inr (1, [.int v_t_things, .ref q_t_kind, .ref q_t_position, .ref q_t_told, .ref q_t_capacity, .ref q_t_amount, .ref q_t_liquid, .ref q_t_portsTaken, .ref q_t_endAtPort, .int v_t_pipes, .ref q_t_pipeLitres, .ref q_t_thingAtEnd, .ref q_t_portAtEnd, .ref q_t_bendAtEnd, .ref q_t_inPipes])), (q_t_capacity, .inl (cI, 40, .inl f_t_capacity)), (q_t_amount, .inl (cI, 40, .inl f_t_amount))] s.heap.size = A at hD ⊢
  have hA : ∀ q : Nat, s.heap.size ≤ q → A q := fun q h => by rw [← hAe]; exact Or.inr h
  have hS : va_S A s.heap s.heap [] := va_S.rf
  have hP : va_P (dC, dI) classes [(q_t, .inr (1, [.int v_t_things, .ref q_t_kind, .ref q_t_position, .ref q_t_told, .ref q_t_capacity, .ref q_t_amount, .ref q_t_liquid, .ref q_t_portsTaken, .ref q_t_endAtPort, .int v_t_pipes, .ref q_t_pipeLitres, .ref q_t_thingAtEnd, .ref q_t_portAtEnd, .ref q_t_bendAtEnd, .ref q_t_inPipes])), (q_t_capacity, .inl (cI, 40, .inl f_t_capacity)), (q_t_amount, .inl (cI, 40, .inl f_t_amount))] s.heap := hP
  have hl := lv_entry [.ref q_t, .int x1] (n := 2) (Nat.le_of_ble_eq_true rfl)
  have he9 : entryFrame m args 2 = F0 m 0 ((lg_sl [.ref q_t, .int x1] ++ List.replicate (2 - (lg_sl [.ref q_t, .int x1]).length) Slot.unset).toArray) [] := by rw [ha]; exact lg_entry_eq _ _ _
  rw [he9]
  clear he9
  generalize (lg_sl [.ref q_t, .int x1] ++ List.replicate (2 - (lg_sl [.ref q_t, .int x1]).length) Slot.unset).toArray = ls at hl ⊢
  have hl : lv_has ls 2 [(0, .ref q_t), (1, .int x1)] := hl
  unfold wp_Pl_roomIn at hw
  refine lv_aload_n hx hb d_Pl_roomIn_0 rfl (lv_at hl 0 rfl) ?_
  refine va_get (D := (dC, dI)) (ci := 1) (v := .ref q_t_capacity) (C := R_Pl) (T := F_Pl) (N := 15) hx hb hts i_Pl hown hK hP 0 rfl rfl 4 (by decide) (hts (Cond.fieldLink R_Pl 21 "PlantGraph$Plant" "capacity" "[I") kw15_41ec014) (fun _ h9 => h9) rfl d_Pl_roomIn_1 ?_
  refine lv_iload_n hx hb d_Pl_roomIn_4 rfl (lv_at hl 1 rfl) ?_
  refine va_iald hx hb hK hP 1 0 rfl rfl hw.1 d_Pl_roomIn_5 ?_
  replace hw := hw.2
  refine lv_aload_n hx hb d_Pl_roomIn_6 rfl (lv_at hl 0 rfl) ?_
  refine va_get (D := (dC, dI)) (ci := 1) (v := .ref q_t_amount) (C := R_Pl) (T := F_Pl) (N := 15) hx hb hts i_Pl hown hK hP 0 rfl rfl 5 (by decide) (hts (Cond.fieldLink R_Pl 24 "PlantGraph$Plant" "amount" "[I") kw15_c5682d8) (fun _ h9 => h9) rfl d_Pl_roomIn_7 ?_
  refine lv_iload_n hx hb d_Pl_roomIn_10 rfl (lv_at hl 1 rfl) ?_
  refine va_iald hx hb hK hP 2 0 rfl rfl hw.1 d_Pl_roomIn_11 ?_
  replace hw := hw.2
  refine lv_isub hx hb d_Pl_roomIn_12 ?_
  exact W.iret (v := ((f_t_capacity x1.toNatClampNeg) - (f_t_amount x1.toNatClampNeg))) hx hb hr (fun t ht hW => ⟨⟨((f_t_capacity x1.toNatClampNeg) - (f_t_amount x1.toNatClampNeg)), (), rfl, hw, by rw [ht]; exact hP, va_K.moved hW.alike hK, hD⟩, hS.F ht⟩) hS.2.2 d_Pl_roomIn_13
def wp_Pl_pourIn (f_t_amount : (Nat → Int32)) (f_t_liquid : (Nat → Int32)) (x1 : Int32) (x2 : Int32) (x3 : Int32) (P : (Nat → Int32) → (Nat → Int32) → Prop) : Prop := ((x2 = 0 → P f_t_amount f_t_liquid) ∧ (¬ x2 = 0 → ((¬ x3 = 0 → (vp_in x1 40 ∧ (((f_t_amount x1.toNatClampNeg) = 0 → (((1 : Int32) = 0 → (vp_in x1 40 ∧ (vp_in x1 40 ∧ (vp_in x1 40 ∧ P (upd f_t_amount x1.toNatClampNeg ((f_t_amount x1.toNatClampNeg) + x3)) (upd f_t_liquid x1.toNatClampNeg 15))))) ∧ (¬ (1 : Int32) = 0 → (vp_in x1 40 ∧ (vp_in x1 40 ∧ (vp_in x1 40 ∧ P (upd f_t_amount x1.toNatClampNeg ((f_t_amount x1.toNatClampNeg) + x3)) (upd f_t_liquid x1.toNatClampNeg x2))))))) ∧ (¬ (f_t_amount x1.toNatClampNeg) = 0 → (vp_in x1 40 ∧ ((¬ (f_t_liquid x1.toNatClampNeg) = x2 → (((0 : Int32) = 0 → (vp_in x1 40 ∧ (vp_in x1 40 ∧ (vp_in x1 40 ∧ P (upd f_t_amount x1.toNatClampNeg ((f_t_amount x1.toNatClampNeg) + x3)) (upd f_t_liquid x1.toNatClampNeg 15))))) ∧ (¬ (0 : Int32) = 0 → (vp_in x1 40 ∧ (vp_in x1 40 ∧ (vp_in x1 40 ∧ P (upd f_t_amount x1.toNatClampNeg ((f_t_amount x1.toNatClampNeg) + x3)) (upd f_t_liquid x1.toNatClampNeg x2))))))) ∧ ((f_t_liquid x1.toNatClampNeg) = x2 → (((1 : Int32) = 0 → (vp_in x1 40 ∧ (vp_in x1 40 ∧ (vp_in x1 40 ∧ P (upd f_t_amount x1.toNatClampNeg ((f_t_amount x1.toNatClampNeg) + x3)) (upd f_t_liquid x1.toNatClampNeg 15))))) ∧ (¬ (1 : Int32) = 0 → (vp_in x1 40 ∧ (vp_in x1 40 ∧ (vp_in x1 40 ∧ P (upd f_t_amount x1.toNatClampNeg ((f_t_amount x1.toNatClampNeg) + x3)) (upd f_t_liquid x1.toNatClampNeg x2))))))))))))) ∧ (x3 = 0 → P f_t_amount f_t_liquid))))
def w_Pl_pourIn : List Cond := .code y_Pl_pourIn b_Pl_pourIn 5 none :: tb
abbrev rm_Pl_pourIn : Room := { frames := 0, cells := 0, slots := 0, locals := 0 }
abbrev Q_Pl_pourIn (dC : Nat → ClassId) (dI : Nat → Nat → Nat) (cI cL cB : ClassId) (q_t : Nat) (q_t_kind : Nat) (q_t_position : Nat) (q_t_told : Nat) (q_t_capacity : Nat) (q_t_amount : Nat) (q_t_liquid : Nat) (q_t_portsTaken : Nat) (q_t_endAtPort : Nat) (q_t_pipeLitres : Nat) (q_t_thingAtEnd : Nat) (q_t_portAtEnd : Nat) (q_t_bendAtEnd : Nat) (q_t_inPipes : Nat) (v_t_things : Int32) (v_t_pipes : Int32) (f_t_amount : (Nat → Int32)) (f_t_liquid : (Nat → Int32)) (x1 : Int32) (x2 : Int32) (x3 : Int32) (P : (Nat → Int32) → (Nat → Int32) → Prop) (A : Nat → Prop) : Array Value → State → Outcome → State → Prop := va_Qv (fun (u : (Nat → Int32) × (Nat → Int32)) => P u.1 u.2) (fun u t => va_P (dC, dI) classes [(q_t, .inr (1, [.int v_t_things, .ref q_t_kind, .ref q_t_position, .ref q_t_told, .ref q_t_capacity, .ref q_t_amount, .ref q_t_liquid, .ref q_t_portsTaken, .ref q_t_endAtPort, .int v_t_pipes, .ref q_t_pipeLitres, .ref q_t_thingAtEnd, .ref q_t_portAtEnd, .ref q_t_bendAtEnd, .ref q_t_inPipes])), (q_t_amount, .inl (cI, 40, .inl u.1)), (q_t_liquid, .inl (cI, 40, .inl u.2))] t.heap ∧ va_K (dC, dI) classes [(cI, .int), (cL, .long), (cB, .byte)] t ∧ va_D A [(q_t, .inr (1, [.int v_t_things, .ref q_t_kind, .ref q_t_position, .ref q_t_told, .ref q_t_capacity, .ref q_t_amount, .ref q_t_liquid, .ref q_t_portsTaken, .ref q_t_endAtPort, .int v_t_pipes, .ref q_t_pipeLitres, .ref q_t_thingAtEnd, .ref q_t_portAtEnd, .ref q_t_bendAtEnd, .ref q_t_inPipes])), (q_t_amount, .inl (cI, 40, .inl u.1)), (q_t_liquid, .inl (cI, 40, .inl u.2))]) A
set_option maxHeartbeats 4000000 in
set_option maxRecDepth 100000 in
theorem c_Pl_pourIn (l : Launch) (dC : Nat → ClassId) (dI : Nat → Nat → Nat) (cI cL cB : ClassId) (q_t : Nat) (q_t_kind : Nat) (q_t_position : Nat) (q_t_told : Nat) (q_t_capacity : Nat) (q_t_amount : Nat) (q_t_liquid : Nat) (q_t_portsTaken : Nat) (q_t_endAtPort : Nat) (q_t_pipeLitres : Nat) (q_t_thingAtEnd : Nat) (q_t_portAtEnd : Nat) (q_t_bendAtEnd : Nat) (q_t_inPipes : Nat) (sz : Nat) (v_t_things : Int32) (v_t_pipes : Int32) (f_t_amount : (Nat → Int32)) (f_t_liquid : (Nat → Int32)) (x1 : Int32) (x2 : Int32) (x3 : Int32) (P : (Nat → Int32) → (Nat → Int32) → Prop) (hw : wp_Pl_pourIn f_t_amount f_t_liquid x1 x2 x3 P) : Met l y_Pl_pourIn w_Pl_pourIn rm_Pl_pourIn (va_Pc [.ref q_t, .int x1, .int x2, .int x3] (fun U => U.heap.size = sz ∧ va_P (dC, dI) classes [(q_t, .inr (1, [.int v_t_things, .ref q_t_kind, .ref q_t_position, .ref q_t_told, .ref q_t_capacity, .ref q_t_amount, .ref q_t_liquid, .ref q_t_portsTaken, .ref q_t_endAtPort, .int v_t_pipes, .ref q_t_pipeLitres, .ref q_t_thingAtEnd, .ref q_t_portAtEnd, .ref q_t_bendAtEnd, .ref q_t_inPipes])), (q_t_amount, .inl (cI, 40, .inl f_t_amount)), (q_t_liquid, .inl (cI, 40, .inl f_t_liquid))] U.heap ∧ va_K (dC, dI) classes [(cI, .int), (cL, .long), (cB, .byte)] U ∧ va_D (fun _ => True) [(q_t, .inr (1, [.int v_t_things, .ref q_t_kind, .ref q_t_position, .ref q_t_told, .ref q_t_capacity, .ref q_t_amount, .ref q_t_liquid, .ref q_t_portsTaken, .ref q_t_endAtPort, .int v_t_pipes, .ref q_t_pipeLitres, .ref q_t_thingAtEnd, .ref q_t_portAtEnd, .ref q_t_bendAtEnd, .ref q_t_inPipes])), (q_t_amount, .inl (cI, 40, .inl f_t_amount)), (q_t_liquid, .inl (cI, 40, .inl f_t_liquid))])) (Q_Pl_pourIn dC dI cI cL cB q_t q_t_kind q_t_position q_t_told q_t_capacity q_t_amount q_t_liquid q_t_portsTaken q_t_endAtPort q_t_pipeLitres q_t_thingAtEnd q_t_portAtEnd q_t_bendAtEnd q_t_inPipes v_t_things v_t_pipes f_t_amount f_t_liquid x1 x2 x3 P (va_A [(q_t, .inr (1, [.int v_t_things, .ref q_t_kind, .ref q_t_position, .ref q_t_told, .ref q_t_capacity, .ref q_t_amount, .ref q_t_liquid, .ref q_t_portsTaken, .ref q_t_endAtPort, .int v_t_pipes, .ref q_t_pipeLitres, .ref q_t_thingAtEnd, .ref q_t_portAtEnd, .ref q_t_bendAtEnd, .ref q_t_inPipes])), (q_t_amount, .inl (cI, 40, .inl f_t_amount)), (q_t_liquid, .inl (cI, 40, .inl f_t_liquid))] sz)) 0 0 (va_A [(q_t, .inr (1, [.int v_t_things, .ref q_t_kind, .ref q_t_position, .ref q_t_told, .ref q_t_capacity, .ref q_t_amount, .ref q_t_liquid, .ref q_t_portsTaken, .ref q_t_endAtPort, .int v_t_pipes, .ref q_t_pipeLitres, .ref q_t_thingAtEnd, .ref q_t_portAtEnd, .ref q_t_bendAtEnd, .ref q_t_inPipes])), (q_t_amount, .inl (cI, 40, .inl f_t_amount)), (q_t_liquid, .inl (cI, 40, .inl f_t_liquid))] sz) := by
  refine Met.ofW (cc := b_Pl_pourIn) (maxL := 5) (ret := none) (by decide) rfl ?_
  intro p e s m args below meth c s₁ B hml hv
  obtain ⟨ha, hsz, hP, hK, hD0⟩ := hv
  have hx := B.exec
  have hb := B.bytes
  have hr := B.returns
  have hts0 := atoms_spec (ws := w_Pl_pourIn) B.pre
  have hts : ∀ w ∈ tb, w.before args s = true := fun w h => hts0 w (List.mem_cons_of_mem _ h)
  have hown : s.vm.findClass R_Pl = some m.cls := findClass_of_methodNamed B.named
  have hlocks := B.notSynchronized
  subst hsz
  have hD := hD0.self (sz := s.heap.size)
  generalize hAe : va_A [(q_t, .inr (1, [.int v_t_things, .ref q_t_kind, .ref q_t_position, .ref q_t_told, .ref q_t_capacity, .ref q_t_amount, .ref q_t_liquid, .ref q_t_portsTaken, .ref q_t_endAtPort, .int v_t_pipes, .ref q_t_pipeLitres, .ref q_t_thingAtEnd, .ref q_t_portAtEnd, .ref q_t_bendAtEnd, .ref q_t_inPipes])), (q_t_amount, .inl (cI, 40, .inl f_t_amount)), (q_t_liquid, .inl (cI, 40, .inl f_t_liquid))] s.heap.size = A at hD ⊢
  have hA : ∀ q : Nat, s.heap.size ≤ q → A q := fun q h => by rw [← hAe]; exact Or.inr h
  have hS : va_S A s.heap s.heap [] := va_S.rf
  have hP : va_P (dC, dI) classes [(q_t, .inr (1, [.int v_t_things, .ref q_t_kind, .ref q_t_position, .ref q_t_told, .ref q_t_capacity, .ref q_t_amount, .ref q_t_liquid, .ref q_t_portsTaken, .ref q_t_endAtPort, .int v_t_pipes, .ref q_t_pipeLitres, .ref q_t_thingAtEnd, .ref q_t_portAtEnd, .ref q_t_bendAtEnd, .ref q_t_inPipes])), (q_t_amount, .inl (cI, 40, .inl f_t_amount)), (q_t_liquid, .inl (cI, 40, .inl f_t_liquid))] s.heap := hP
  have hl := lv_entry [.ref q_t, .int x1, .int x2, .int x3] (n := 5) (Nat.le_of_ble_eq_true rfl)
  have he9 : entryFrame m args 5 = F0 m 0 ((lg_sl [.ref q_t, .int x1, .int x2, .int x3] ++ List.replicate (5 - (lg_sl [.ref q_t, .int x1, .int x2, .int x3]).length) Slot.unset).toArray) [] := by rw [ha]; exact lg_entry_eq _ _ _
  rw [he9]
  clear he9
  generalize (lg_sl [.ref q_t, .int x1, .int x2, .int x3] ++ List.replicate (5 - (lg_sl [.ref q_t, .int x1, .int x2, .int x3]).length) Slot.unset).toArray = ls at hl ⊢
  have hl : lv_has ls 5 [(0, .ref q_t), (1, .int x1), (2, .int x2), (3, .int x3)] := hl
  unfold wp_Pl_pourIn at hw
  refine lv_iload_n hx hb d_Pl_pourIn_0 rfl (lv_at hl 2 rfl) ?_
  refine lv_if_eq (tgt := 8) hx hb d_Pl_pourIn_1 (by decide) (fun c1 => ?_) (fun c1 => ?_)
  · replace hw := hw.1 c1
    exact W.vret hx hb hr (fun t ht hW => ⟨⟨(f_t_amount, f_t_liquid), rfl, hw, by rw [ht]; exact hP, va_K.moved hW.alike hK, hD⟩, hS.F ht⟩) hS.2.2 d_Pl_pourIn_8
  · replace hw := hw.2 c1
    refine lv_iload_n hx hb d_Pl_pourIn_4 rfl (lv_at hl 3 rfl) ?_
    refine lv_if_ne (tgt := 9) hx hb d_Pl_pourIn_5 (by decide) (fun c5 => ?_) (fun c5 => ?_)
    · replace hw := hw.1 c5
      refine lv_aload_n hx hb d_Pl_pourIn_9 rfl (lv_at hl 0 rfl) ?_
      refine va_get (D := (dC, dI)) (ci := 1) (v := .ref q_t_amount) (C := R_Pl) (T := F_Pl) (N := 15) hx hb hts i_Pl hown hK hP 0 rfl rfl 5 (by decide) (hts (Cond.fieldLink R_Pl 24 "PlantGraph$Plant" "amount" "[I") kw15_c5682d8) (fun _ h9 => h9) rfl d_Pl_pourIn_10 ?_
      refine lv_iload_n hx hb d_Pl_pourIn_13 rfl (lv_at hl 1 rfl) ?_
      refine va_iald hx hb hK hP 1 0 rfl rfl hw.1 d_Pl_pourIn_14 ?_
      replace hw := hw.2
      refine lv_if_eq (tgt := 28) hx hb d_Pl_pourIn_15 (by decide) (fun c15 => ?_) (fun c15 => ?_)
      · replace hw := hw.1 c15
        refine lv_iconst (v := 1) hx hb d_Pl_pourIn_28 (by decide) ?_
        refine lv_goto (tgt := 33) hx hb d_Pl_pourIn_29 (by decide) ?_
        refine lv_istore (lv' := [(4, .int 1), (0, .ref q_t), (1, .int x1), (2, .int x2), (3, .int x3)]) hx hb d_Pl_pourIn_33 hl (by decide) rfl (fun ls hl => ?_)
        refine lv_aload_n hx hb d_Pl_pourIn_35 rfl (lv_at hl 1 rfl) ?_
        refine va_get (D := (dC, dI)) (ci := 1) (v := .ref q_t_liquid) (C := R_Pl) (T := F_Pl) (N := 15) hx hb hts i_Pl hown hK hP 0 rfl rfl 6 (by decide) (hts (Cond.fieldLink R_Pl 27 "PlantGraph$Plant" "liquid" "[I") kw15_5d95be5) (fun _ h9 => h9) rfl d_Pl_pourIn_36 ?_
        refine lv_iload_n hx hb d_Pl_pourIn_39 rfl (lv_at hl 2 rfl) ?_
        refine lv_iload hx hb d_Pl_pourIn_40 (lv_at hl 0 rfl) ?_
        refine lv_if_eq (tgt := 49) hx hb d_Pl_pourIn_42 (by decide) (fun c42 => ?_) (fun c42 => ?_)
        · replace hw := hw.1 c42
          refine lv_bipush (v := 15) hx hb d_Pl_pourIn_49 (by decide) ?_
          refine va_iast hx hb hK hP hD hS 2 0 rfl rfl hw.1 d_Pl_pourIn_51 (fun H locs hP hD hS => ?_)
          replace hw := hw.2
          have hP : va_P (dC, dI) classes [(q_t, .inr (1, [.int v_t_things, .ref q_t_kind, .ref q_t_position, .ref q_t_told, .ref q_t_capacity, .ref q_t_amount, .ref q_t_liquid, .ref q_t_portsTaken, .ref q_t_endAtPort, .int v_t_pipes, .ref q_t_pipeLitres, .ref q_t_thingAtEnd, .ref q_t_portAtEnd, .ref q_t_bendAtEnd, .ref q_t_inPipes])), (q_t_amount, .inl (cI, 40, .inl f_t_amount)), (q_t_liquid, .inl (cI, 40, .inl (upd f_t_liquid x1.toNatClampNeg 15)))] H := hP
          have hD : va_D A [(q_t, .inr (1, [.int v_t_things, .ref q_t_kind, .ref q_t_position, .ref q_t_told, .ref q_t_capacity, .ref q_t_amount, .ref q_t_liquid, .ref q_t_portsTaken, .ref q_t_endAtPort, .int v_t_pipes, .ref q_t_pipeLitres, .ref q_t_thingAtEnd, .ref q_t_portAtEnd, .ref q_t_bendAtEnd, .ref q_t_inPipes])), (q_t_amount, .inl (cI, 40, .inl f_t_amount)), (q_t_liquid, .inl (cI, 40, .inl (upd f_t_liquid x1.toNatClampNeg 15)))] := hD
          refine lv_aload_n hx hb d_Pl_pourIn_52 rfl (lv_at hl 1 rfl) ?_
          refine va_get (D := (dC, dI)) (ci := 1) (v := .ref q_t_amount) (C := R_Pl) (T := F_Pl) (N := 15) hx hb hts i_Pl hown hK hP 0 rfl rfl 5 (by decide) (hts (Cond.fieldLink R_Pl 24 "PlantGraph$Plant" "amount" "[I") kw15_c5682d8) (fun _ h9 => h9) rfl d_Pl_pourIn_53 ?_
          refine lv_iload_n hx hb d_Pl_pourIn_56 rfl (lv_at hl 2 rfl) ?_
          refine lv_dup2_11 hx hb d_Pl_pourIn_57 rfl rfl ?_
          refine va_iald hx hb hK hP 1 0 rfl rfl hw.1 d_Pl_pourIn_58 ?_
          replace hw := hw.2
          refine lv_iload_n hx hb d_Pl_pourIn_59 rfl (lv_at hl 4 rfl) ?_
          refine lv_iadd hx hb d_Pl_pourIn_60 ?_
          refine va_iast hx hb hK hP hD hS 1 0 rfl rfl hw.1 d_Pl_pourIn_61 (fun H locs hP hD hS => ?_)
          replace hw := hw.2
          have hP : va_P (dC, dI) classes [(q_t, .inr (1, [.int v_t_things, .ref q_t_kind, .ref q_t_position, .ref q_t_told, .ref q_t_capacity, .ref q_t_amount, .ref q_t_liquid, .ref q_t_portsTaken, .ref q_t_endAtPort, .int v_t_pipes, .ref q_t_pipeLitres, .ref q_t_thingAtEnd, .ref q_t_portAtEnd, .ref q_t_bendAtEnd, .ref q_t_inPipes])), (q_t_amount, .inl (cI, 40, .inl (upd f_t_amount x1.toNatClampNeg ((f_t_amount x1.toNatClampNeg) + x3)))), (q_t_liquid, .inl (cI, 40, .inl (upd f_t_liquid x1.toNatClampNeg 15)))] H := hP
          have hD : va_D A [(q_t, .inr (1, [.int v_t_things, .ref q_t_kind, .ref q_t_position, .ref q_t_told, .ref q_t_capacity, .ref q_t_amount, .ref q_t_liquid, .ref q_t_portsTaken, .ref q_t_endAtPort, .int v_t_pipes, .ref q_t_pipeLitres, .ref q_t_thingAtEnd, .ref q_t_portAtEnd, .ref q_t_bendAtEnd, .ref q_t_inPipes])), (q_t_amount, .inl (cI, 40, .inl (upd f_t_amount x1.toNatClampNeg ((f_t_amount x1.toNatClampNeg) + x3)))), (q_t_liquid, .inl (cI, 40, .inl (upd f_t_liquid x1.toNatClampNeg 15)))] := hD
          exact W.vret hx hb hr (fun t ht hW => ⟨⟨((upd f_t_amount x1.toNatClampNeg ((f_t_amount x1.toNatClampNeg) + x3)), (upd f_t_liquid x1.toNatClampNeg 15)), rfl, hw, by rw [ht]; exact hP, va_K.moved hW.alike hK, hD⟩, hS.F ht⟩) hS.2.2 d_Pl_pourIn_62
        · replace hw := hw.2 c42
          refine lv_iload_n hx hb d_Pl_pourIn_45 rfl (lv_at hl 3 rfl) ?_
          refine lv_goto (tgt := 51) hx hb d_Pl_pourIn_46 (by decide) ?_
          refine va_iast hx hb hK hP hD hS 2 0 rfl rfl hw.1 d_Pl_pourIn_51 (fun H locs hP hD hS => ?_)
          replace hw := hw.2
          have hP : va_P (dC, dI) classes [(q_t, .inr (1, [.int v_t_things, .ref q_t_kind, .ref q_t_position, .ref q_t_told, .ref q_t_capacity, .ref q_t_amount, .ref q_t_liquid, .ref q_t_portsTaken, .ref q_t_endAtPort, .int v_t_pipes, .ref q_t_pipeLitres, .ref q_t_thingAtEnd, .ref q_t_portAtEnd, .ref q_t_bendAtEnd, .ref q_t_inPipes])), (q_t_amount, .inl (cI, 40, .inl f_t_amount)), (q_t_liquid, .inl (cI, 40, .inl (upd f_t_liquid x1.toNatClampNeg x2)))] H := hP
          have hD : va_D A [(q_t, .inr (1, [.int v_t_things, .ref q_t_kind, .ref q_t_position, .ref q_t_told, .ref q_t_capacity, .ref q_t_amount, .ref q_t_liquid, .ref q_t_portsTaken, .ref q_t_endAtPort, .int v_t_pipes, .ref q_t_pipeLitres, .ref q_t_thingAtEnd, .ref q_t_portAtEnd, .ref q_t_bendAtEnd, .ref q_t_inPipes])), (q_t_amount, .inl (cI, 40, .inl f_t_amount)), (q_t_liquid, .inl (cI, 40, .inl (upd f_t_liquid x1.toNatClampNeg x2)))] := hD
          refine lv_aload_n hx hb d_Pl_pourIn_52 rfl (lv_at hl 1 rfl) ?_
          refine va_get (D := (dC, dI)) (ci := 1) (v := .ref q_t_amount) (C := R_Pl) (T := F_Pl) (N := 15) hx hb hts i_Pl hown hK hP 0 rfl rfl 5 (by decide) (hts (Cond.fieldLink R_Pl 24 "PlantGraph$Plant" "amount" "[I") kw15_c5682d8) (fun _ h9 => h9) rfl d_Pl_pourIn_53 ?_
          refine lv_iload_n hx hb d_Pl_pourIn_56 rfl (lv_at hl 2 rfl) ?_
          refine lv_dup2_11 hx hb d_Pl_pourIn_57 rfl rfl ?_
          refine va_iald hx hb hK hP 1 0 rfl rfl hw.1 d_Pl_pourIn_58 ?_
          replace hw := hw.2
          refine lv_iload_n hx hb d_Pl_pourIn_59 rfl (lv_at hl 4 rfl) ?_
          refine lv_iadd hx hb d_Pl_pourIn_60 ?_
          refine va_iast hx hb hK hP hD hS 1 0 rfl rfl hw.1 d_Pl_pourIn_61 (fun H locs hP hD hS => ?_)
          replace hw := hw.2
          have hP : va_P (dC, dI) classes [(q_t, .inr (1, [.int v_t_things, .ref q_t_kind, .ref q_t_position, .ref q_t_told, .ref q_t_capacity, .ref q_t_amount, .ref q_t_liquid, .ref q_t_portsTaken, .ref q_t_endAtPort, .int v_t_pipes, .ref q_t_pipeLitres, .ref q_t_thingAtEnd, .ref q_t_portAtEnd, .ref q_t_bendAtEnd, .ref q_t_inPipes])), (q_t_amount, .inl (cI, 40, .inl (upd f_t_amount x1.toNatClampNeg ((f_t_amount x1.toNatClampNeg) + x3)))), (q_t_liquid, .inl (cI, 40, .inl (upd f_t_liquid x1.toNatClampNeg x2)))] H := hP
          have hD : va_D A [(q_t, .inr (1, [.int v_t_things, .ref q_t_kind, .ref q_t_position, .ref q_t_told, .ref q_t_capacity, .ref q_t_amount, .ref q_t_liquid, .ref q_t_portsTaken, .ref q_t_endAtPort, .int v_t_pipes, .ref q_t_pipeLitres, .ref q_t_thingAtEnd, .ref q_t_portAtEnd, .ref q_t_bendAtEnd, .ref q_t_inPipes])), (q_t_amount, .inl (cI, 40, .inl (upd f_t_amount x1.toNatClampNeg ((f_t_amount x1.toNatClampNeg) + x3)))), (q_t_liquid, .inl (cI, 40, .inl (upd f_t_liquid x1.toNatClampNeg x2)))] := hD
          exact W.vret hx hb hr (fun t ht hW => ⟨⟨((upd f_t_amount x1.toNatClampNeg ((f_t_amount x1.toNatClampNeg) + x3)), (upd f_t_liquid x1.toNatClampNeg x2)), rfl, hw, by rw [ht]; exact hP, va_K.moved hW.alike hK, hD⟩, hS.F ht⟩) hS.2.2 d_Pl_pourIn_62
      · replace hw := hw.2 c15
        refine lv_aload_n hx hb d_Pl_pourIn_18 rfl (lv_at hl 0 rfl) ?_
        refine va_get (D := (dC, dI)) (ci := 1) (v := .ref q_t_liquid) (C := R_Pl) (T := F_Pl) (N := 15) hx hb hts i_Pl hown hK hP 0 rfl rfl 6 (by decide) (hts (Cond.fieldLink R_Pl 27 "PlantGraph$Plant" "liquid" "[I") kw15_5d95be5) (fun _ h9 => h9) rfl d_Pl_pourIn_19 ?_
        refine lv_iload_n hx hb d_Pl_pourIn_22 rfl (lv_at hl 1 rfl) ?_
        refine va_iald hx hb hK hP 2 0 rfl rfl hw.1 d_Pl_pourIn_23 ?_
        replace hw := hw.2
        refine lv_iload_n hx hb d_Pl_pourIn_24 rfl (lv_at hl 2 rfl) ?_
        refine lv_icmp_ne (tgt := 32) hx hb d_Pl_pourIn_25 (by decide) (fun c25 => ?_) (fun c25 => ?_)
        · replace hw := hw.1 c25
          refine lv_iconst (v := 0) hx hb d_Pl_pourIn_32 (by decide) ?_
          refine lv_istore (lv' := [(4, .int 0), (0, .ref q_t), (1, .int x1), (2, .int x2), (3, .int x3)]) hx hb d_Pl_pourIn_33 hl (by decide) rfl (fun ls hl => ?_)
          refine lv_aload_n hx hb d_Pl_pourIn_35 rfl (lv_at hl 1 rfl) ?_
          refine va_get (D := (dC, dI)) (ci := 1) (v := .ref q_t_liquid) (C := R_Pl) (T := F_Pl) (N := 15) hx hb hts i_Pl hown hK hP 0 rfl rfl 6 (by decide) (hts (Cond.fieldLink R_Pl 27 "PlantGraph$Plant" "liquid" "[I") kw15_5d95be5) (fun _ h9 => h9) rfl d_Pl_pourIn_36 ?_
          refine lv_iload_n hx hb d_Pl_pourIn_39 rfl (lv_at hl 2 rfl) ?_
          refine lv_iload hx hb d_Pl_pourIn_40 (lv_at hl 0 rfl) ?_
          refine lv_if_eq (tgt := 49) hx hb d_Pl_pourIn_42 (by decide) (fun c42 => ?_) (fun c42 => ?_)
          · replace hw := hw.1 c42
            refine lv_bipush (v := 15) hx hb d_Pl_pourIn_49 (by decide) ?_
            refine va_iast hx hb hK hP hD hS 2 0 rfl rfl hw.1 d_Pl_pourIn_51 (fun H locs hP hD hS => ?_)
            replace hw := hw.2
            have hP : va_P (dC, dI) classes [(q_t, .inr (1, [.int v_t_things, .ref q_t_kind, .ref q_t_position, .ref q_t_told, .ref q_t_capacity, .ref q_t_amount, .ref q_t_liquid, .ref q_t_portsTaken, .ref q_t_endAtPort, .int v_t_pipes, .ref q_t_pipeLitres, .ref q_t_thingAtEnd, .ref q_t_portAtEnd, .ref q_t_bendAtEnd, .ref q_t_inPipes])), (q_t_amount, .inl (cI, 40, .inl f_t_amount)), (q_t_liquid, .inl (cI, 40, .inl (upd f_t_liquid x1.toNatClampNeg 15)))] H := hP
            have hD : va_D A [(q_t, .inr (1, [.int v_t_things, .ref q_t_kind, .ref q_t_position, .ref q_t_told, .ref q_t_capacity, .ref q_t_amount, .ref q_t_liquid, .ref q_t_portsTaken, .ref q_t_endAtPort, .int v_t_pipes, .ref q_t_pipeLitres, .ref q_t_thingAtEnd, .ref q_t_portAtEnd, .ref q_t_bendAtEnd, .ref q_t_inPipes])), (q_t_amount, .inl (cI, 40, .inl f_t_amount)), (q_t_liquid, .inl (cI, 40, .inl (upd f_t_liquid x1.toNatClampNeg 15)))] := hD
            refine lv_aload_n hx hb d_Pl_pourIn_52 rfl (lv_at hl 1 rfl) ?_
            refine va_get (D := (dC, dI)) (ci := 1) (v := .ref q_t_amount) (C := R_Pl) (T := F_Pl) (N := 15) hx hb hts i_Pl hown hK hP 0 rfl rfl 5 (by decide) (hts (Cond.fieldLink R_Pl 24 "PlantGraph$Plant" "amount" "[I") kw15_c5682d8) (fun _ h9 => h9) rfl d_Pl_pourIn_53 ?_
            refine lv_iload_n hx hb d_Pl_pourIn_56 rfl (lv_at hl 2 rfl) ?_
            refine lv_dup2_11 hx hb d_Pl_pourIn_57 rfl rfl ?_
            refine va_iald hx hb hK hP 1 0 rfl rfl hw.1 d_Pl_pourIn_58 ?_
            replace hw := hw.2
            refine lv_iload_n hx hb d_Pl_pourIn_59 rfl (lv_at hl 4 rfl) ?_
            refine lv_iadd hx hb d_Pl_pourIn_60 ?_
            refine va_iast hx hb hK hP hD hS 1 0 rfl rfl hw.1 d_Pl_pourIn_61 (fun H locs hP hD hS => ?_)
            replace hw := hw.2
            have hP : va_P (dC, dI) classes [(q_t, .inr (1, [.int v_t_things, .ref q_t_kind, .ref q_t_position, .ref q_t_told, .ref q_t_capacity, .ref q_t_amount, .ref q_t_liquid, .ref q_t_portsTaken, .ref q_t_endAtPort, .int v_t_pipes, .ref q_t_pipeLitres, .ref q_t_thingAtEnd, .ref q_t_portAtEnd, .ref q_t_bendAtEnd, .ref q_t_inPipes])), (q_t_amount, .inl (cI, 40, .inl (upd f_t_amount x1.toNatClampNeg ((f_t_amount x1.toNatClampNeg) + x3)))), (q_t_liquid, .inl (cI, 40, .inl (upd f_t_liquid x1.toNatClampNeg 15)))] H := hP
            have hD : va_D A [(q_t, .inr (1, [.int v_t_things, .ref q_t_kind, .ref q_t_position, .ref q_t_told, .ref q_t_capacity, .ref q_t_amount, .ref q_t_liquid, .ref q_t_portsTaken, .ref q_t_endAtPort, .int v_t_pipes, .ref q_t_pipeLitres, .ref q_t_thingAtEnd, .ref q_t_portAtEnd, .ref q_t_bendAtEnd, .ref q_t_inPipes])), (q_t_amount, .inl (cI, 40, .inl (upd f_t_amount x1.toNatClampNeg ((f_t_amount x1.toNatClampNeg) + x3)))), (q_t_liquid, .inl (cI, 40, .inl (upd f_t_liquid x1.toNatClampNeg 15)))] := hD
            exact W.vret hx hb hr (fun t ht hW => ⟨⟨((upd f_t_amount x1.toNatClampNeg ((f_t_amount x1.toNatClampNeg) + x3)), (upd f_t_liquid x1.toNatClampNeg 15)), rfl, hw, by rw [ht]; exact hP, va_K.moved hW.alike hK, hD⟩, hS.F ht⟩) hS.2.2 d_Pl_pourIn_62
          · replace hw := hw.2 c42
            refine lv_iload_n hx hb d_Pl_pourIn_45 rfl (lv_at hl 3 rfl) ?_
            refine lv_goto (tgt := 51) hx hb d_Pl_pourIn_46 (by decide) ?_
            refine va_iast hx hb hK hP hD hS 2 0 rfl rfl hw.1 d_Pl_pourIn_51 (fun H locs hP hD hS => ?_)
            replace hw := hw.2
            have hP : va_P (dC, dI) classes [(q_t, .inr (1, [.int v_t_things, .ref q_t_kind, .ref q_t_position, .ref q_t_told, .ref q_t_capacity, .ref q_t_amount, .ref q_t_liquid, .ref q_t_portsTaken, .ref q_t_endAtPort, .int v_t_pipes, .ref q_t_pipeLitres, .ref q_t_thingAtEnd, .ref q_t_portAtEnd, .ref q_t_bendAtEnd, .ref q_t_inPipes])), (q_t_amount, .inl (cI, 40, .inl f_t_amount)), (q_t_liquid, .inl (cI, 40, .inl (upd f_t_liquid x1.toNatClampNeg x2)))] H := hP
            have hD : va_D A [(q_t, .inr (1, [.int v_t_things, .ref q_t_kind, .ref q_t_position, .ref q_t_told, .ref q_t_capacity, .ref q_t_amount, .ref q_t_liquid, .ref q_t_portsTaken, .ref q_t_endAtPort, .int v_t_pipes, .ref q_t_pipeLitres, .ref q_t_thingAtEnd, .ref q_t_portAtEnd, .ref q_t_bendAtEnd, .ref q_t_inPipes])), (q_t_amount, .inl (cI, 40, .inl f_t_amount)), (q_t_liquid, .inl (cI, 40, .inl (upd f_t_liquid x1.toNatClampNeg x2)))] := hD
            refine lv_aload_n hx hb d_Pl_pourIn_52 rfl (lv_at hl 1 rfl) ?_
            refine va_get (D := (dC, dI)) (ci := 1) (v := .ref q_t_amount) (C := R_Pl) (T := F_Pl) (N := 15) hx hb hts i_Pl hown hK hP 0 rfl rfl 5 (by decide) (hts (Cond.fieldLink R_Pl 24 "PlantGraph$Plant" "amount" "[I") kw15_c5682d8) (fun _ h9 => h9) rfl d_Pl_pourIn_53 ?_
            refine lv_iload_n hx hb d_Pl_pourIn_56 rfl (lv_at hl 2 rfl) ?_
            refine lv_dup2_11 hx hb d_Pl_pourIn_57 rfl rfl ?_
            refine va_iald hx hb hK hP 1 0 rfl rfl hw.1 d_Pl_pourIn_58 ?_
            replace hw := hw.2
            refine lv_iload_n hx hb d_Pl_pourIn_59 rfl (lv_at hl 4 rfl) ?_
            refine lv_iadd hx hb d_Pl_pourIn_60 ?_
            refine va_iast hx hb hK hP hD hS 1 0 rfl rfl hw.1 d_Pl_pourIn_61 (fun H locs hP hD hS => ?_)
            replace hw := hw.2
            have hP : va_P (dC, dI) classes [(q_t, .inr (1, [.int v_t_things, .ref q_t_kind, .ref q_t_position, .ref q_t_told, .ref q_t_capacity, .ref q_t_amount, .ref q_t_liquid, .ref q_t_portsTaken, .ref q_t_endAtPort, .int v_t_pipes, .ref q_t_pipeLitres, .ref q_t_thingAtEnd, .ref q_t_portAtEnd, .ref q_t_bendAtEnd, .ref q_t_inPipes])), (q_t_amount, .inl (cI, 40, .inl (upd f_t_amount x1.toNatClampNeg ((f_t_amount x1.toNatClampNeg) + x3)))), (q_t_liquid, .inl (cI, 40, .inl (upd f_t_liquid x1.toNatClampNeg x2)))] H := hP
            have hD : va_D A [(q_t, .inr (1, [.int v_t_things, .ref q_t_kind, .ref q_t_position, .ref q_t_told, .ref q_t_capacity, .ref q_t_amount, .ref q_t_liquid, .ref q_t_portsTaken, .ref q_t_endAtPort, .int v_t_pipes, .ref q_t_pipeLitres, .ref q_t_thingAtEnd, .ref q_t_portAtEnd, .ref q_t_bendAtEnd, .ref q_t_inPipes])), (q_t_amount, .inl (cI, 40, .inl (upd f_t_amount x1.toNatClampNeg ((f_t_amount x1.toNatClampNeg) + x3)))), (q_t_liquid, .inl (cI, 40, .inl (upd f_t_liquid x1.toNatClampNeg x2)))] := hD
            exact W.vret hx hb hr (fun t ht hW => ⟨⟨((upd f_t_amount x1.toNatClampNeg ((f_t_amount x1.toNatClampNeg) + x3)), (upd f_t_liquid x1.toNatClampNeg x2)), rfl, hw, by rw [ht]; exact hP, va_K.moved hW.alike hK, hD⟩, hS.F ht⟩) hS.2.2 d_Pl_pourIn_62
        · replace hw := hw.2 c25
          refine lv_iconst (v := 1) hx hb d_Pl_pourIn_28 (by decide) ?_
          refine lv_goto (tgt := 33) hx hb d_Pl_pourIn_29 (by decide) ?_
          refine lv_istore (lv' := [(4, .int 1), (0, .ref q_t), (1, .int x1), (2, .int x2), (3, .int x3)]) hx hb d_Pl_pourIn_33 hl (by decide) rfl (fun ls hl => ?_)
          refine lv_aload_n hx hb d_Pl_pourIn_35 rfl (lv_at hl 1 rfl) ?_
          refine va_get (D := (dC, dI)) (ci := 1) (v := .ref q_t_liquid) (C := R_Pl) (T := F_Pl) (N := 15) hx hb hts i_Pl hown hK hP 0 rfl rfl 6 (by decide) (hts (Cond.fieldLink R_Pl 27 "PlantGraph$Plant" "liquid" "[I") kw15_5d95be5) (fun _ h9 => h9) rfl d_Pl_pourIn_36 ?_
          refine lv_iload_n hx hb d_Pl_pourIn_39 rfl (lv_at hl 2 rfl) ?_
          refine lv_iload hx hb d_Pl_pourIn_40 (lv_at hl 0 rfl) ?_
          refine lv_if_eq (tgt := 49) hx hb d_Pl_pourIn_42 (by decide) (fun c42 => ?_) (fun c42 => ?_)
          · replace hw := hw.1 c42
            refine lv_bipush (v := 15) hx hb d_Pl_pourIn_49 (by decide) ?_
            refine va_iast hx hb hK hP hD hS 2 0 rfl rfl hw.1 d_Pl_pourIn_51 (fun H locs hP hD hS => ?_)
            replace hw := hw.2
            have hP : va_P (dC, dI) classes [(q_t, .inr (1, [.int v_t_things, .ref q_t_kind, .ref q_t_position, .ref q_t_told, .ref q_t_capacity, .ref q_t_amount, .ref q_t_liquid, .ref q_t_portsTaken, .ref q_t_endAtPort, .int v_t_pipes, .ref q_t_pipeLitres, .ref q_t_thingAtEnd, .ref q_t_portAtEnd, .ref q_t_bendAtEnd, .ref q_t_inPipes])), (q_t_amount, .inl (cI, 40, .inl f_t_amount)), (q_t_liquid, .inl (cI, 40, .inl (upd f_t_liquid x1.toNatClampNeg 15)))] H := hP
            have hD : va_D A [(q_t, .inr (1, [.int v_t_things, .ref q_t_kind, .ref q_t_position, .ref q_t_told, .ref q_t_capacity, .ref q_t_amount, .ref q_t_liquid, .ref q_t_portsTaken, .ref q_t_endAtPort, .int v_t_pipes, .ref q_t_pipeLitres, .ref q_t_thingAtEnd, .ref q_t_portAtEnd, .ref q_t_bendAtEnd, .ref q_t_inPipes])), (q_t_amount, .inl (cI, 40, .inl f_t_amount)), (q_t_liquid, .inl (cI, 40, .inl (upd f_t_liquid x1.toNatClampNeg 15)))] := hD
            refine lv_aload_n hx hb d_Pl_pourIn_52 rfl (lv_at hl 1 rfl) ?_
            refine va_get (D := (dC, dI)) (ci := 1) (v := .ref q_t_amount) (C := R_Pl) (T := F_Pl) (N := 15) hx hb hts i_Pl hown hK hP 0 rfl rfl 5 (by decide) (hts (Cond.fieldLink R_Pl 24 "PlantGraph$Plant" "amount" "[I") kw15_c5682d8) (fun _ h9 => h9) rfl d_Pl_pourIn_53 ?_
            refine lv_iload_n hx hb d_Pl_pourIn_56 rfl (lv_at hl 2 rfl) ?_
            refine lv_dup2_11 hx hb d_Pl_pourIn_57 rfl rfl ?_
            refine va_iald hx hb hK hP 1 0 rfl rfl hw.1 d_Pl_pourIn_58 ?_
            replace hw := hw.2
            refine lv_iload_n hx hb d_Pl_pourIn_59 rfl (lv_at hl 4 rfl) ?_
            refine lv_iadd hx hb d_Pl_pourIn_60 ?_
            refine va_iast hx hb hK hP hD hS 1 0 rfl rfl hw.1 d_Pl_pourIn_61 (fun H locs hP hD hS => ?_)
            replace hw := hw.2
            have hP : va_P (dC, dI) classes [(q_t, .inr (1, [.int v_t_things, .ref q_t_kind, .ref q_t_position, .ref q_t_told, .ref q_t_capacity, .ref q_t_amount, .ref q_t_liquid, .ref q_t_portsTaken, .ref q_t_endAtPort, .int v_t_pipes, .ref q_t_pipeLitres, .ref q_t_thingAtEnd, .ref q_t_portAtEnd, .ref q_t_bendAtEnd, .ref q_t_inPipes])), (q_t_amount, .inl (cI, 40, .inl (upd f_t_amount x1.toNatClampNeg ((f_t_amount x1.toNatClampNeg) + x3)))), (q_t_liquid, .inl (cI, 40, .inl (upd f_t_liquid x1.toNatClampNeg 15)))] H := hP
            have hD : va_D A [(q_t, .inr (1, [.int v_t_things, .ref q_t_kind, .ref q_t_position, .ref q_t_told, .ref q_t_capacity, .ref q_t_amount, .ref q_t_liquid, .ref q_t_portsTaken, .ref q_t_endAtPort, .int v_t_pipes, .ref q_t_pipeLitres, .ref q_t_thingAtEnd, .ref q_t_portAtEnd, .ref q_t_bendAtEnd, .ref q_t_inPipes])), (q_t_amount, .inl (cI, 40, .inl (upd f_t_amount x1.toNatClampNeg ((f_t_amount x1.toNatClampNeg) + x3)))), (q_t_liquid, .inl (cI, 40, .inl (upd f_t_liquid x1.toNatClampNeg 15)))] := hD
            exact W.vret hx hb hr (fun t ht hW => ⟨⟨((upd f_t_amount x1.toNatClampNeg ((f_t_amount x1.toNatClampNeg) + x3)), (upd f_t_liquid x1.toNatClampNeg 15)), rfl, hw, by rw [ht]; exact hP, va_K.moved hW.alike hK, hD⟩, hS.F ht⟩) hS.2.2 d_Pl_pourIn_62
          · replace hw := hw.2 c42
            refine lv_iload_n hx hb d_Pl_pourIn_45 rfl (lv_at hl 3 rfl) ?_
            refine lv_goto (tgt := 51) hx hb d_Pl_pourIn_46 (by decide) ?_
            refine va_iast hx hb hK hP hD hS 2 0 rfl rfl hw.1 d_Pl_pourIn_51 (fun H locs hP hD hS => ?_)
            replace hw := hw.2
            have hP : va_P (dC, dI) classes [(q_t, .inr (1, [.int v_t_things, .ref q_t_kind, .ref q_t_position, .ref q_t_told, .ref q_t_capacity, .ref q_t_amount, .ref q_t_liquid, .ref q_t_portsTaken, .ref q_t_endAtPort, .int v_t_pipes, .ref q_t_pipeLitres, .ref q_t_thingAtEnd, .ref q_t_portAtEnd, .ref q_t_bendAtEnd, .ref q_t_inPipes])), (q_t_amount, .inl (cI, 40, .inl f_t_amount)), (q_t_liquid, .inl (cI, 40, .inl (upd f_t_liquid x1.toNatClampNeg x2)))] H := hP
            have hD : va_D A [(q_t, .inr (1, [.int v_t_things, .ref q_t_kind, .ref q_t_position, .ref q_t_told, .ref q_t_capacity, .ref q_t_amount, .ref q_t_liquid, .ref q_t_portsTaken, .ref q_t_endAtPort, .int v_t_pipes, .ref q_t_pipeLitres, .ref q_t_thingAtEnd, .ref q_t_portAtEnd, .ref q_t_bendAtEnd, .ref q_t_inPipes])), (q_t_amount, .inl (cI, 40, .inl f_t_amount)), (q_t_liquid, .inl (cI, 40, .inl (upd f_t_liquid x1.toNatClampNeg x2)))] := hD
            refine lv_aload_n hx hb d_Pl_pourIn_52 rfl (lv_at hl 1 rfl) ?_
            refine va_get (D := (dC, dI)) (ci := 1) (v := .ref q_t_amount) (C := R_Pl) (T := F_Pl) (N := 15) hx hb hts i_Pl hown hK hP 0 rfl rfl 5 (by decide) (hts (Cond.fieldLink R_Pl 24 "PlantGraph$Plant" "amount" "[I") kw15_c5682d8) (fun _ h9 => h9) rfl d_Pl_pourIn_53 ?_
            refine lv_iload_n hx hb d_Pl_pourIn_56 rfl (lv_at hl 2 rfl) ?_
            refine lv_dup2_11 hx hb d_Pl_pourIn_57 rfl rfl ?_
            refine va_iald hx hb hK hP 1 0 rfl rfl hw.1 d_Pl_pourIn_58 ?_
            replace hw := hw.2
            refine lv_iload_n hx hb d_Pl_pourIn_59 rfl (lv_at hl 4 rfl) ?_
            refine lv_iadd hx hb d_Pl_pourIn_60 ?_
            refine va_iast hx hb hK hP hD hS 1 0 rfl rfl hw.1 d_Pl_pourIn_61 (fun H locs hP hD hS => ?_)
            replace hw := hw.2
            have hP : va_P (dC, dI) classes [(q_t, .inr (1, [.int v_t_things, .ref q_t_kind, .ref q_t_position, .ref q_t_told, .ref q_t_capacity, .ref q_t_amount, .ref q_t_liquid, .ref q_t_portsTaken, .ref q_t_endAtPort, .int v_t_pipes, .ref q_t_pipeLitres, .ref q_t_thingAtEnd, .ref q_t_portAtEnd, .ref q_t_bendAtEnd, .ref q_t_inPipes])), (q_t_amount, .inl (cI, 40, .inl (upd f_t_amount x1.toNatClampNeg ((f_t_amount x1.toNatClampNeg) + x3)))), (q_t_liquid, .inl (cI, 40, .inl (upd f_t_liquid x1.toNatClampNeg x2)))] H := hP
            have hD : va_D A [(q_t, .inr (1, [.int v_t_things, .ref q_t_kind, .ref q_t_position, .ref q_t_told, .ref q_t_capacity, .ref q_t_amount, .ref q_t_liquid, .ref q_t_portsTaken, .ref q_t_endAtPort, .int v_t_pipes, .ref q_t_pipeLitres, .ref q_t_thingAtEnd, .ref q_t_portAtEnd, .ref q_t_bendAtEnd, .ref q_t_inPipes])), (q_t_amount, .inl (cI, 40, .inl (upd f_t_amount x1.toNatClampNeg ((f_t_amount x1.toNatClampNeg) + x3)))), (q_t_liquid, .inl (cI, 40, .inl (upd f_t_liquid x1.toNatClampNeg x2)))] := hD
            exact W.vret hx hb hr (fun t ht hW => ⟨⟨((upd f_t_amount x1.toNatClampNeg ((f_t_amount x1.toNatClampNeg) + x3)), (upd f_t_liquid x1.toNatClampNeg x2)), rfl, hw, by rw [ht]; exact hP, va_K.moved hW.alike hK, hD⟩, hS.F ht⟩) hS.2.2 d_Pl_pourIn_62
    · replace hw := hw.2 c5
      exact W.vret hx hb hr (fun t ht hW => ⟨⟨(f_t_amount, f_t_liquid), rfl, hw, by rw [ht]; exact hP, va_K.moved hW.alike hK, hD⟩, hS.F ht⟩) hS.2.2 d_Pl_pourIn_8
def wp_Pl_drawOff (f_t_amount : (Nat → Int32)) (f_t_liquid : (Nat → Int32)) (x1 : Int32) (x2 : Int32) (P : (Nat → Int32) → (Nat → Int32) → Prop) : Prop := (vp_in x1 40 ∧ (vp_in x1 40 ∧ (vp_in x1 40 ∧ ((¬ ((upd f_t_amount x1.toNatClampNeg ((f_t_amount x1.toNatClampNeg) - x2)) x1.toNatClampNeg) = 0 → P (upd f_t_amount x1.toNatClampNeg ((f_t_amount x1.toNatClampNeg) - x2)) f_t_liquid) ∧ (((upd f_t_amount x1.toNatClampNeg ((f_t_amount x1.toNatClampNeg) - x2)) x1.toNatClampNeg) = 0 → (vp_in x1 40 ∧ P (upd f_t_amount x1.toNatClampNeg ((f_t_amount x1.toNatClampNeg) - x2)) (upd f_t_liquid x1.toNatClampNeg 0)))))))
def w_Pl_drawOff : List Cond := .code y_Pl_drawOff b_Pl_drawOff 3 none :: tb
abbrev rm_Pl_drawOff : Room := { frames := 0, cells := 0, slots := 0, locals := 0 }
abbrev Q_Pl_drawOff (dC : Nat → ClassId) (dI : Nat → Nat → Nat) (cI cL cB : ClassId) (q_t : Nat) (q_t_kind : Nat) (q_t_position : Nat) (q_t_told : Nat) (q_t_capacity : Nat) (q_t_amount : Nat) (q_t_liquid : Nat) (q_t_portsTaken : Nat) (q_t_endAtPort : Nat) (q_t_pipeLitres : Nat) (q_t_thingAtEnd : Nat) (q_t_portAtEnd : Nat) (q_t_bendAtEnd : Nat) (q_t_inPipes : Nat) (v_t_things : Int32) (v_t_pipes : Int32) (f_t_amount : (Nat → Int32)) (f_t_liquid : (Nat → Int32)) (x1 : Int32) (x2 : Int32) (P : (Nat → Int32) → (Nat → Int32) → Prop) (A : Nat → Prop) : Array Value → State → Outcome → State → Prop := va_Qv (fun (u : (Nat → Int32) × (Nat → Int32)) => P u.1 u.2) (fun u t => va_P (dC, dI) classes [(q_t, .inr (1, [.int v_t_things, .ref q_t_kind, .ref q_t_position, .ref q_t_told, .ref q_t_capacity, .ref q_t_amount, .ref q_t_liquid, .ref q_t_portsTaken, .ref q_t_endAtPort, .int v_t_pipes, .ref q_t_pipeLitres, .ref q_t_thingAtEnd, .ref q_t_portAtEnd, .ref q_t_bendAtEnd, .ref q_t_inPipes])), (q_t_amount, .inl (cI, 40, .inl u.1)), (q_t_liquid, .inl (cI, 40, .inl u.2))] t.heap ∧ va_K (dC, dI) classes [(cI, .int), (cL, .long), (cB, .byte)] t ∧ va_D A [(q_t, .inr (1, [.int v_t_things, .ref q_t_kind, .ref q_t_position, .ref q_t_told, .ref q_t_capacity, .ref q_t_amount, .ref q_t_liquid, .ref q_t_portsTaken, .ref q_t_endAtPort, .int v_t_pipes, .ref q_t_pipeLitres, .ref q_t_thingAtEnd, .ref q_t_portAtEnd, .ref q_t_bendAtEnd, .ref q_t_inPipes])), (q_t_amount, .inl (cI, 40, .inl u.1)), (q_t_liquid, .inl (cI, 40, .inl u.2))]) A
set_option maxHeartbeats 4000000 in
set_option maxRecDepth 100000 in
theorem c_Pl_drawOff (l : Launch) (dC : Nat → ClassId) (dI : Nat → Nat → Nat) (cI cL cB : ClassId) (q_t : Nat) (q_t_kind : Nat) (q_t_position : Nat) (q_t_told : Nat) (q_t_capacity : Nat) (q_t_amount : Nat) (q_t_liquid : Nat) (q_t_portsTaken : Nat) (q_t_endAtPort : Nat) (q_t_pipeLitres : Nat) (q_t_thingAtEnd : Nat) (q_t_portAtEnd : Nat) (q_t_bendAtEnd : Nat) (q_t_inPipes : Nat) (sz : Nat) (v_t_things : Int32) (v_t_pipes : Int32) (f_t_amount : (Nat → Int32)) (f_t_liquid : (Nat → Int32)) (x1 : Int32) (x2 : Int32) (P : (Nat → Int32) → (Nat → Int32) → Prop) (hw : wp_Pl_drawOff f_t_amount f_t_liquid x1 x2 P) : Met l y_Pl_drawOff w_Pl_drawOff rm_Pl_drawOff (va_Pc [.ref q_t, .int x1, .int x2] (fun U => U.heap.size = sz ∧ va_P (dC, dI) classes [(q_t, .inr (1, [.int v_t_things, .ref q_t_kind, .ref q_t_position, .ref q_t_told, .ref q_t_capacity, .ref q_t_amount, .ref q_t_liquid, .ref q_t_portsTaken, .ref q_t_endAtPort, .int v_t_pipes, .ref q_t_pipeLitres, .ref q_t_thingAtEnd, .ref q_t_portAtEnd, .ref q_t_bendAtEnd, .ref q_t_inPipes])), (q_t_amount, .inl (cI, 40, .inl f_t_amount)), (q_t_liquid, .inl (cI, 40, .inl f_t_liquid))] U.heap ∧ va_K (dC, dI) classes [(cI, .int), (cL, .long), (cB, .byte)] U ∧ va_D (fun _ => True) [(q_t, .inr (1, [.int v_t_things, .ref q_t_kind, .ref q_t_position, .ref q_t_told, .ref q_t_capacity, .ref q_t_amount, .ref q_t_liquid, .ref q_t_portsTaken, .ref q_t_endAtPort, .int v_t_pipes, .ref q_t_pipeLitres, .ref q_t_thingAtEnd, .ref q_t_portAtEnd, .ref q_t_bendAtEnd, .ref q_t_inPipes])), (q_t_amount, .inl (cI, 40, .inl f_t_amount)), (q_t_liquid, .inl (cI, 40, .inl f_t_liquid))])) (Q_Pl_drawOff dC dI cI cL cB q_t q_t_kind q_t_position q_t_told q_t_capacity q_t_amount q_t_liquid q_t_portsTaken q_t_endAtPort q_t_pipeLitres q_t_thingAtEnd q_t_portAtEnd q_t_bendAtEnd q_t_inPipes v_t_things v_t_pipes f_t_amount f_t_liquid x1 x2 P (va_A [(q_t, .inr (1, [.int v_t_things, .ref q_t_kind, .ref q_t_position, .ref q_t_told, .ref q_t_capacity, .ref q_t_amount, .ref q_t_liquid, .ref q_t_portsTaken, .ref q_t_endAtPort, .int v_t_pipes, .ref q_t_pipeLitres, .ref q_t_thingAtEnd, .ref q_t_portAtEnd, .ref q_t_bendAtEnd, .ref q_t_inPipes])), (q_t_amount, .inl (cI, 40, .inl f_t_amount)), (q_t_liquid, .inl (cI, 40, .inl f_t_liquid))] sz)) 0 0 (va_A [(q_t, .inr (1, [.int v_t_things, .ref q_t_kind, .ref q_t_position, .ref q_t_told, .ref q_t_capacity, .ref q_t_amount, .ref q_t_liquid, .ref q_t_portsTaken, .ref q_t_endAtPort, .int v_t_pipes, .ref q_t_pipeLitres, .ref q_t_thingAtEnd, .ref q_t_portAtEnd, .ref q_t_bendAtEnd, .ref q_t_inPipes])), (q_t_amount, .inl (cI, 40, .inl f_t_amount)), (q_t_liquid, .inl (cI, 40, .inl f_t_liquid))] sz) := by
  refine Met.ofW (cc := b_Pl_drawOff) (maxL := 3) (ret := none) (by decide) rfl ?_
  intro p e s m args below meth c s₁ B hml hv
  obtain ⟨ha, hsz, hP, hK, hD0⟩ := hv
  have hx := B.exec
  have hb := B.bytes
  have hr := B.returns
  have hts0 := atoms_spec (ws := w_Pl_drawOff) B.pre
  have hts : ∀ w ∈ tb, w.before args s = true := fun w h => hts0 w (List.mem_cons_of_mem _ h)
  have hown : s.vm.findClass R_Pl = some m.cls := findClass_of_methodNamed B.named
  have hlocks := B.notSynchronized
  subst hsz
  have hD := hD0.self (sz := s.heap.size)
  generalize hAe : va_A [(q_t, .inr (1, [.int v_t_things, .ref q_t_kind, .ref q_t_position, .ref q_t_told, .ref q_t_capacity, .ref q_t_amount, .ref q_t_liquid, .ref q_t_portsTaken, .ref q_t_endAtPort, .int v_t_pipes, .ref q_t_pipeLitres, .ref q_t_thingAtEnd, .ref q_t_portAtEnd, .ref q_t_bendAtEnd, .ref q_t_inPipes])), (q_t_amount, .inl (cI, 40, .inl f_t_amount)), (q_t_liquid, .inl (cI, 40, .inl f_t_liquid))] s.heap.size = A at hD ⊢
  have hA : ∀ q : Nat, s.heap.size ≤ q → A q := fun q h => by rw [← hAe]; exact Or.inr h
  have hS : va_S A s.heap s.heap [] := va_S.rf
  have hP : va_P (dC, dI) classes [(q_t, .inr (1, [.int v_t_things, .ref q_t_kind, .ref q_t_position, .ref q_t_told, .ref q_t_capacity, .ref q_t_amount, .ref q_t_liquid, .ref q_t_portsTaken, .ref q_t_endAtPort, .int v_t_pipes, .ref q_t_pipeLitres, .ref q_t_thingAtEnd, .ref q_t_portAtEnd, .ref q_t_bendAtEnd, .ref q_t_inPipes])), (q_t_amount, .inl (cI, 40, .inl f_t_amount)), (q_t_liquid, .inl (cI, 40, .inl f_t_liquid))] s.heap := hP
  have hl := lv_entry [.ref q_t, .int x1, .int x2] (n := 3) (Nat.le_of_ble_eq_true rfl)
  have he9 : entryFrame m args 3 = F0 m 0 ((lg_sl [.ref q_t, .int x1, .int x2] ++ List.replicate (3 - (lg_sl [.ref q_t, .int x1, .int x2]).length) Slot.unset).toArray) [] := by rw [ha]; exact lg_entry_eq _ _ _
  rw [he9]
  clear he9
  generalize (lg_sl [.ref q_t, .int x1, .int x2] ++ List.replicate (3 - (lg_sl [.ref q_t, .int x1, .int x2]).length) Slot.unset).toArray = ls at hl ⊢
  have hl : lv_has ls 3 [(0, .ref q_t), (1, .int x1), (2, .int x2)] := hl
  unfold wp_Pl_drawOff at hw
  refine lv_aload_n hx hb d_Pl_drawOff_0 rfl (lv_at hl 0 rfl) ?_
  refine va_get (D := (dC, dI)) (ci := 1) (v := .ref q_t_amount) (C := R_Pl) (T := F_Pl) (N := 15) hx hb hts i_Pl hown hK hP 0 rfl rfl 5 (by decide) (hts (Cond.fieldLink R_Pl 24 "PlantGraph$Plant" "amount" "[I") kw15_c5682d8) (fun _ h9 => h9) rfl d_Pl_drawOff_1 ?_
  refine lv_iload_n hx hb d_Pl_drawOff_4 rfl (lv_at hl 1 rfl) ?_
  refine lv_dup2_11 hx hb d_Pl_drawOff_5 rfl rfl ?_
  refine va_iald hx hb hK hP 1 0 rfl rfl hw.1 d_Pl_drawOff_6 ?_
  replace hw := hw.2
  refine lv_iload_n hx hb d_Pl_drawOff_7 rfl (lv_at hl 2 rfl) ?_
  refine lv_isub hx hb d_Pl_drawOff_8 ?_
  refine va_iast hx hb hK hP hD hS 1 0 rfl rfl hw.1 d_Pl_drawOff_9 (fun H locs hP hD hS => ?_)
  replace hw := hw.2
  have hP : va_P (dC, dI) classes [(q_t, .inr (1, [.int v_t_things, .ref q_t_kind, .ref q_t_position, .ref q_t_told, .ref q_t_capacity, .ref q_t_amount, .ref q_t_liquid, .ref q_t_portsTaken, .ref q_t_endAtPort, .int v_t_pipes, .ref q_t_pipeLitres, .ref q_t_thingAtEnd, .ref q_t_portAtEnd, .ref q_t_bendAtEnd, .ref q_t_inPipes])), (q_t_amount, .inl (cI, 40, .inl (upd f_t_amount x1.toNatClampNeg ((f_t_amount x1.toNatClampNeg) - x2)))), (q_t_liquid, .inl (cI, 40, .inl f_t_liquid))] H := hP
  have hD : va_D A [(q_t, .inr (1, [.int v_t_things, .ref q_t_kind, .ref q_t_position, .ref q_t_told, .ref q_t_capacity, .ref q_t_amount, .ref q_t_liquid, .ref q_t_portsTaken, .ref q_t_endAtPort, .int v_t_pipes, .ref q_t_pipeLitres, .ref q_t_thingAtEnd, .ref q_t_portAtEnd, .ref q_t_bendAtEnd, .ref q_t_inPipes])), (q_t_amount, .inl (cI, 40, .inl (upd f_t_amount x1.toNatClampNeg ((f_t_amount x1.toNatClampNeg) - x2)))), (q_t_liquid, .inl (cI, 40, .inl f_t_liquid))] := hD
  refine lv_aload_n hx hb d_Pl_drawOff_10 rfl (lv_at hl 0 rfl) ?_
  refine va_get (D := (dC, dI)) (ci := 1) (v := .ref q_t_amount) (C := R_Pl) (T := F_Pl) (N := 15) hx hb hts i_Pl hown hK hP 0 rfl rfl 5 (by decide) (hts (Cond.fieldLink R_Pl 24 "PlantGraph$Plant" "amount" "[I") kw15_c5682d8) (fun _ h9 => h9) rfl d_Pl_drawOff_11 ?_
  refine lv_iload_n hx hb d_Pl_drawOff_14 rfl (lv_at hl 1 rfl) ?_
  refine va_iald hx hb hK hP 1 0 rfl rfl hw.1 d_Pl_drawOff_15 ?_
  replace hw := hw.2
  refine lv_if_ne (tgt := 26) hx hb d_Pl_drawOff_16 (by decide) (fun c16 => ?_) (fun c16 => ?_)
  · replace hw := hw.1 c16
    exact W.vret hx hb hr (fun t ht hW => ⟨⟨((upd f_t_amount x1.toNatClampNeg ((f_t_amount x1.toNatClampNeg) - x2)), f_t_liquid), rfl, hw, by rw [ht]; exact hP, va_K.moved hW.alike hK, hD⟩, hS.F ht⟩) hS.2.2 d_Pl_drawOff_26
  · replace hw := hw.2 c16
    refine lv_aload_n hx hb d_Pl_drawOff_19 rfl (lv_at hl 0 rfl) ?_
    refine va_get (D := (dC, dI)) (ci := 1) (v := .ref q_t_liquid) (C := R_Pl) (T := F_Pl) (N := 15) hx hb hts i_Pl hown hK hP 0 rfl rfl 6 (by decide) (hts (Cond.fieldLink R_Pl 27 "PlantGraph$Plant" "liquid" "[I") kw15_5d95be5) (fun _ h9 => h9) rfl d_Pl_drawOff_20 ?_
    refine lv_iload_n hx hb d_Pl_drawOff_23 rfl (lv_at hl 1 rfl) ?_
    refine lv_iconst (v := 0) hx hb d_Pl_drawOff_24 (by decide) ?_
    refine va_iast hx hb hK hP hD hS 2 0 rfl rfl hw.1 d_Pl_drawOff_25 (fun H locs hP hD hS => ?_)
    replace hw := hw.2
    have hP : va_P (dC, dI) classes [(q_t, .inr (1, [.int v_t_things, .ref q_t_kind, .ref q_t_position, .ref q_t_told, .ref q_t_capacity, .ref q_t_amount, .ref q_t_liquid, .ref q_t_portsTaken, .ref q_t_endAtPort, .int v_t_pipes, .ref q_t_pipeLitres, .ref q_t_thingAtEnd, .ref q_t_portAtEnd, .ref q_t_bendAtEnd, .ref q_t_inPipes])), (q_t_amount, .inl (cI, 40, .inl (upd f_t_amount x1.toNatClampNeg ((f_t_amount x1.toNatClampNeg) - x2)))), (q_t_liquid, .inl (cI, 40, .inl (upd f_t_liquid x1.toNatClampNeg 0)))] H := hP
    have hD : va_D A [(q_t, .inr (1, [.int v_t_things, .ref q_t_kind, .ref q_t_position, .ref q_t_told, .ref q_t_capacity, .ref q_t_amount, .ref q_t_liquid, .ref q_t_portsTaken, .ref q_t_endAtPort, .int v_t_pipes, .ref q_t_pipeLitres, .ref q_t_thingAtEnd, .ref q_t_portAtEnd, .ref q_t_bendAtEnd, .ref q_t_inPipes])), (q_t_amount, .inl (cI, 40, .inl (upd f_t_amount x1.toNatClampNeg ((f_t_amount x1.toNatClampNeg) - x2)))), (q_t_liquid, .inl (cI, 40, .inl (upd f_t_liquid x1.toNatClampNeg 0)))] := hD
    exact W.vret hx hb hr (fun t ht hW => ⟨⟨((upd f_t_amount x1.toNatClampNeg ((f_t_amount x1.toNatClampNeg) - x2)), (upd f_t_liquid x1.toNatClampNeg 0)), rfl, hw, by rw [ht]; exact hP, va_K.moved hW.alike hK, hD⟩, hS.F ht⟩) hS.2.2 d_Pl_drawOff_26
def wp_Pl_placeFrom (f_t_pipeLitres : (Nat → Int32)) (x1 : Int32) (x2 : Int32) (P : Int32 → Prop) : Prop := ((¬ (x1 - x1 / 2 * 2) = 0 → (vp_in (x1 / 2) 60 ∧ P (((x1 / 2) * 200) + (((f_t_pipeLitres (x1 / 2).toNatClampNeg) - 1) - x2)))) ∧ ((x1 - x1 / 2 * 2) = 0 → P (((x1 / 2) * 200) + x2)))
def w_Pl_placeFrom : List Cond := .code y_Pl_placeFrom b_Pl_placeFrom 5 (some .int) :: tb
abbrev rm_Pl_placeFrom : Room := { frames := 0, cells := 0, slots := 0, locals := 0 }
abbrev Q_Pl_placeFrom (dC : Nat → ClassId) (dI : Nat → Nat → Nat) (cI cL cB : ClassId) (q_t : Nat) (q_t_kind : Nat) (q_t_position : Nat) (q_t_told : Nat) (q_t_capacity : Nat) (q_t_amount : Nat) (q_t_liquid : Nat) (q_t_portsTaken : Nat) (q_t_endAtPort : Nat) (q_t_pipeLitres : Nat) (q_t_thingAtEnd : Nat) (q_t_portAtEnd : Nat) (q_t_bendAtEnd : Nat) (q_t_inPipes : Nat) (v_t_things : Int32) (v_t_pipes : Int32) (f_t_pipeLitres : (Nat → Int32)) (x1 : Int32) (x2 : Int32) (P : Int32 → Prop) (A : Nat → Prop) : Array Value → State → Outcome → State → Prop := va_Qi (fun (r : Int32) (u : Unit) => P r) (fun u t => va_P (dC, dI) classes [(q_t, .inr (1, [.int v_t_things, .ref q_t_kind, .ref q_t_position, .ref q_t_told, .ref q_t_capacity, .ref q_t_amount, .ref q_t_liquid, .ref q_t_portsTaken, .ref q_t_endAtPort, .int v_t_pipes, .ref q_t_pipeLitres, .ref q_t_thingAtEnd, .ref q_t_portAtEnd, .ref q_t_bendAtEnd, .ref q_t_inPipes])), (q_t_pipeLitres, .inl (cI, 60, .inl f_t_pipeLitres))] t.heap ∧ va_K (dC, dI) classes [(cI, .int), (cL, .long), (cB, .byte)] t ∧ va_D A [(q_t, .inr (1, [.int v_t_things, .ref q_t_kind, .ref q_t_position, .ref q_t_told, .ref q_t_capacity, .ref q_t_amount, .ref q_t_liquid, .ref q_t_portsTaken, .ref q_t_endAtPort, .int v_t_pipes, .ref q_t_pipeLitres, .ref q_t_thingAtEnd, .ref q_t_portAtEnd, .ref q_t_bendAtEnd, .ref q_t_inPipes])), (q_t_pipeLitres, .inl (cI, 60, .inl f_t_pipeLitres))]) A
set_option maxHeartbeats 4000000 in
set_option maxRecDepth 100000 in
theorem c_Pl_placeFrom (l : Launch) (dC : Nat → ClassId) (dI : Nat → Nat → Nat) (cI cL cB : ClassId) (q_t : Nat) (q_t_kind : Nat) (q_t_position : Nat) (q_t_told : Nat) (q_t_capacity : Nat) (q_t_amount : Nat) (q_t_liquid : Nat) (q_t_portsTaken : Nat) (q_t_endAtPort : Nat) (q_t_pipeLitres : Nat) (q_t_thingAtEnd : Nat) (q_t_portAtEnd : Nat) (q_t_bendAtEnd : Nat) (q_t_inPipes : Nat) (sz : Nat) (v_t_things : Int32) (v_t_pipes : Int32) (f_t_pipeLitres : (Nat → Int32)) (x1 : Int32) (x2 : Int32) (P : Int32 → Prop) (hw : wp_Pl_placeFrom f_t_pipeLitres x1 x2 P) : Met l y_Pl_placeFrom w_Pl_placeFrom rm_Pl_placeFrom (va_Pc [.ref q_t, .int x1, .int x2] (fun U => U.heap.size = sz ∧ va_P (dC, dI) classes [(q_t, .inr (1, [.int v_t_things, .ref q_t_kind, .ref q_t_position, .ref q_t_told, .ref q_t_capacity, .ref q_t_amount, .ref q_t_liquid, .ref q_t_portsTaken, .ref q_t_endAtPort, .int v_t_pipes, .ref q_t_pipeLitres, .ref q_t_thingAtEnd, .ref q_t_portAtEnd, .ref q_t_bendAtEnd, .ref q_t_inPipes])), (q_t_pipeLitres, .inl (cI, 60, .inl f_t_pipeLitres))] U.heap ∧ va_K (dC, dI) classes [(cI, .int), (cL, .long), (cB, .byte)] U ∧ va_D (fun _ => True) [(q_t, .inr (1, [.int v_t_things, .ref q_t_kind, .ref q_t_position, .ref q_t_told, .ref q_t_capacity, .ref q_t_amount, .ref q_t_liquid, .ref q_t_portsTaken, .ref q_t_endAtPort, .int v_t_pipes, .ref q_t_pipeLitres, .ref q_t_thingAtEnd, .ref q_t_portAtEnd, .ref q_t_bendAtEnd, .ref q_t_inPipes])), (q_t_pipeLitres, .inl (cI, 60, .inl f_t_pipeLitres))])) (Q_Pl_placeFrom dC dI cI cL cB q_t q_t_kind q_t_position q_t_told q_t_capacity q_t_amount q_t_liquid q_t_portsTaken q_t_endAtPort q_t_pipeLitres q_t_thingAtEnd q_t_portAtEnd q_t_bendAtEnd q_t_inPipes v_t_things v_t_pipes f_t_pipeLitres x1 x2 P (va_A [(q_t, .inr (1, [.int v_t_things, .ref q_t_kind, .ref q_t_position, .ref q_t_told, .ref q_t_capacity, .ref q_t_amount, .ref q_t_liquid, .ref q_t_portsTaken, .ref q_t_endAtPort, .int v_t_pipes, .ref q_t_pipeLitres, .ref q_t_thingAtEnd, .ref q_t_portAtEnd, .ref q_t_bendAtEnd, .ref q_t_inPipes])), (q_t_pipeLitres, .inl (cI, 60, .inl f_t_pipeLitres))] sz)) 0 0 (va_A [(q_t, .inr (1, [.int v_t_things, .ref q_t_kind, .ref q_t_position, .ref q_t_told, .ref q_t_capacity, .ref q_t_amount, .ref q_t_liquid, .ref q_t_portsTaken, .ref q_t_endAtPort, .int v_t_pipes, .ref q_t_pipeLitres, .ref q_t_thingAtEnd, .ref q_t_portAtEnd, .ref q_t_bendAtEnd, .ref q_t_inPipes])), (q_t_pipeLitres, .inl (cI, 60, .inl f_t_pipeLitres))] sz) := by
  refine Met.ofW (cc := b_Pl_placeFrom) (maxL := 5) (ret := (some .int)) (by decide) rfl ?_
  intro p e s m args below meth c s₁ B hml hv
  obtain ⟨ha, hsz, hP, hK, hD0⟩ := hv
  have hx := B.exec
  have hb := B.bytes
  have hr := B.returns
  have hts0 := atoms_spec (ws := w_Pl_placeFrom) B.pre
  have hts : ∀ w ∈ tb, w.before args s = true := fun w h => hts0 w (List.mem_cons_of_mem _ h)
  have hown : s.vm.findClass R_Pl = some m.cls := findClass_of_methodNamed B.named
  have hlocks := B.notSynchronized
  subst hsz
  have hD := hD0.self (sz := s.heap.size)
  generalize hAe : va_A [(q_t, .inr (1, [.int v_t_things, .ref q_t_kind, .ref q_t_position, .ref q_t_told, .ref q_t_capacity, .ref q_t_amount, .ref q_t_liquid, .ref q_t_portsTaken, .ref q_t_endAtPort, .int v_t_pipes, .ref q_t_pipeLitres, .ref q_t_thingAtEnd, .ref q_t_portAtEnd, .ref q_t_bendAtEnd, .ref q_t_inPipes])), (q_t_pipeLitres, .inl (cI, 60, .inl f_t_pipeLitres))] s.heap.size = A at hD ⊢
  have hA : ∀ q : Nat, s.heap.size ≤ q → A q := fun q h => by rw [← hAe]; exact Or.inr h
  have hS : va_S A s.heap s.heap [] := va_S.rf
  have hP : va_P (dC, dI) classes [(q_t, .inr (1, [.int v_t_things, .ref q_t_kind, .ref q_t_position, .ref q_t_told, .ref q_t_capacity, .ref q_t_amount, .ref q_t_liquid, .ref q_t_portsTaken, .ref q_t_endAtPort, .int v_t_pipes, .ref q_t_pipeLitres, .ref q_t_thingAtEnd, .ref q_t_portAtEnd, .ref q_t_bendAtEnd, .ref q_t_inPipes])), (q_t_pipeLitres, .inl (cI, 60, .inl f_t_pipeLitres))] s.heap := hP
  have hl := lv_entry [.ref q_t, .int x1, .int x2] (n := 5) (Nat.le_of_ble_eq_true rfl)
  have he9 : entryFrame m args 5 = F0 m 0 ((lg_sl [.ref q_t, .int x1, .int x2] ++ List.replicate (5 - (lg_sl [.ref q_t, .int x1, .int x2]).length) Slot.unset).toArray) [] := by rw [ha]; exact lg_entry_eq _ _ _
  rw [he9]
  clear he9
  generalize (lg_sl [.ref q_t, .int x1, .int x2] ++ List.replicate (5 - (lg_sl [.ref q_t, .int x1, .int x2]).length) Slot.unset).toArray = ls at hl ⊢
  have hl : lv_has ls 5 [(0, .ref q_t), (1, .int x1), (2, .int x2)] := hl
  unfold wp_Pl_placeFrom at hw
  refine lv_iload_n hx hb d_Pl_placeFrom_0 rfl (lv_at hl 1 rfl) ?_
  refine lv_iconst (v := 2) hx hb d_Pl_placeFrom_1 (by decide) ?_
  refine lv_idiv hx hb d_Pl_placeFrom_2 (by decide) ?_
  refine lv_istore_n (lv' := [(3, .int (x1 / 2)), (0, .ref q_t), (1, .int x1), (2, .int x2)]) hx hb d_Pl_placeFrom_3 rfl hl (by decide) rfl (fun ls hl => ?_)
  refine lv_iload_n hx hb d_Pl_placeFrom_4 rfl (lv_at hl 2 rfl) ?_
  refine lv_iconst (v := 2) hx hb d_Pl_placeFrom_5 (by decide) ?_
  refine lv_irem hx hb d_Pl_placeFrom_6 (by decide) ?_
  refine lv_if_ne (tgt := 14) hx hb d_Pl_placeFrom_7 (by decide) (fun c7 => ?_) (fun c7 => ?_)
  · replace hw := hw.1 c7
    refine lv_aload_n hx hb d_Pl_placeFrom_14 rfl (lv_at hl 1 rfl) ?_
    refine va_get (D := (dC, dI)) (ci := 1) (v := .ref q_t_pipeLitres) (C := R_Pl) (T := F_Pl) (N := 15) hx hb hts i_Pl hown hK hP 0 rfl rfl 10 (by decide) (hts (Cond.fieldLink R_Pl 36 "PlantGraph$Plant" "pipeLitres" "[I") kw15_9698590) (fun _ h9 => h9) rfl d_Pl_placeFrom_15 ?_
    refine lv_iload_n hx hb d_Pl_placeFrom_18 rfl (lv_at hl 0 rfl) ?_
    refine va_iald hx hb hK hP 1 0 rfl rfl hw.1 d_Pl_placeFrom_19 ?_
    replace hw := hw.2
    refine lv_iconst (v := 1) hx hb d_Pl_placeFrom_20 (by decide) ?_
    refine lv_isub hx hb d_Pl_placeFrom_21 ?_
    refine lv_iload_n hx hb d_Pl_placeFrom_22 rfl (lv_at hl 3 rfl) ?_
    refine lv_isub hx hb d_Pl_placeFrom_23 ?_
    refine lv_istore (lv' := [(4, .int (((f_t_pipeLitres (x1 / 2).toNatClampNeg) - 1) - x2)), (3, .int (x1 / 2)), (0, .ref q_t), (1, .int x1), (2, .int x2)]) hx hb d_Pl_placeFrom_24 hl (by decide) rfl (fun ls hl => ?_)
    refine lv_iload_n hx hb d_Pl_placeFrom_26 rfl (lv_at hl 1 rfl) ?_
    refine lv_sipush (v := 200) hx hb d_Pl_placeFrom_27 (by decide) ?_
    refine lv_imul hx hb d_Pl_placeFrom_30 ?_
    refine lv_iload hx hb d_Pl_placeFrom_31 (lv_at hl 0 rfl) ?_
    refine lv_iadd hx hb d_Pl_placeFrom_33 ?_
    exact W.iret (v := (((x1 / 2) * 200) + (((f_t_pipeLitres (x1 / 2).toNatClampNeg) - 1) - x2))) hx hb hr (fun t ht hW => ⟨⟨(((x1 / 2) * 200) + (((f_t_pipeLitres (x1 / 2).toNatClampNeg) - 1) - x2)), (), rfl, hw, by rw [ht]; exact hP, va_K.moved hW.alike hK, hD⟩, hS.F ht⟩) hS.2.2 d_Pl_placeFrom_34
  · replace hw := hw.2 c7
    refine lv_iload_n hx hb d_Pl_placeFrom_10 rfl (lv_at hl 3 rfl) ?_
    refine lv_goto (tgt := 24) hx hb d_Pl_placeFrom_11 (by decide) ?_
    refine lv_istore (lv' := [(4, .int x2), (3, .int (x1 / 2)), (0, .ref q_t), (1, .int x1), (2, .int x2)]) hx hb d_Pl_placeFrom_24 hl (by decide) rfl (fun ls hl => ?_)
    refine lv_iload_n hx hb d_Pl_placeFrom_26 rfl (lv_at hl 1 rfl) ?_
    refine lv_sipush (v := 200) hx hb d_Pl_placeFrom_27 (by decide) ?_
    refine lv_imul hx hb d_Pl_placeFrom_30 ?_
    refine lv_iload hx hb d_Pl_placeFrom_31 (lv_at hl 0 rfl) ?_
    refine lv_iadd hx hb d_Pl_placeFrom_33 ?_
    exact W.iret (v := (((x1 / 2) * 200) + x2)) hx hb hr (fun t ht hW => ⟨⟨(((x1 / 2) * 200) + x2), (), rfl, hw, by rw [ht]; exact hP, va_K.moved hW.alike hK, hD⟩, hS.F ht⟩) hS.2.2 d_Pl_placeFrom_34
def wp_Pl_litreFrom (f_t_pipeLitres : (Nat → Int32)) (f_t_inPipes_words : (Nat → Int64)) (x1 : Int32) (x2 : Int32) (P : Int32 → Prop) : Prop := wp_Pl_placeFrom f_t_pipeLitres x1 x2 (fun r7 => wp_Li_at f_t_inPipes_words r7 (fun r10 => P r10))
def w_Pl_litreFrom : List Cond := .code y_Pl_litreFrom b_Pl_litreFrom 3 (some .int) :: tb
abbrev rm_Pl_litreFrom : Room := { frames := 2, cells := 0, slots := 0, locals := 46 }
abbrev Q_Pl_litreFrom (dC : Nat → ClassId) (dI : Nat → Nat → Nat) (cI cL cB : ClassId) (q_t : Nat) (q_t_kind : Nat) (q_t_position : Nat) (q_t_told : Nat) (q_t_capacity : Nat) (q_t_amount : Nat) (q_t_liquid : Nat) (q_t_portsTaken : Nat) (q_t_endAtPort : Nat) (q_t_pipeLitres : Nat) (q_t_thingAtEnd : Nat) (q_t_portAtEnd : Nat) (q_t_bendAtEnd : Nat) (q_t_inPipes : Nat) (q_t_inPipes_words : Nat) (v_t_things : Int32) (v_t_pipes : Int32) (f_t_pipeLitres : (Nat → Int32)) (f_t_inPipes_words : (Nat → Int64)) (x1 : Int32) (x2 : Int32) (P : Int32 → Prop) (A : Nat → Prop) : Array Value → State → Outcome → State → Prop := va_Qi (fun (r : Int32) (u : Unit) => P r) (fun u t => va_P (dC, dI) classes [(q_t, .inr (1, [.int v_t_things, .ref q_t_kind, .ref q_t_position, .ref q_t_told, .ref q_t_capacity, .ref q_t_amount, .ref q_t_liquid, .ref q_t_portsTaken, .ref q_t_endAtPort, .int v_t_pipes, .ref q_t_pipeLitres, .ref q_t_thingAtEnd, .ref q_t_portAtEnd, .ref q_t_bendAtEnd, .ref q_t_inPipes])), (q_t_pipeLitres, .inl (cI, 60, .inl f_t_pipeLitres)), (q_t_inPipes, .inr (2, [.ref q_t_inPipes_words])), (q_t_inPipes_words, .inl (cL, 750, .inr (.inl f_t_inPipes_words)))] t.heap ∧ va_K (dC, dI) classes [(cI, .int), (cL, .long), (cB, .byte)] t ∧ va_D A [(q_t, .inr (1, [.int v_t_things, .ref q_t_kind, .ref q_t_position, .ref q_t_told, .ref q_t_capacity, .ref q_t_amount, .ref q_t_liquid, .ref q_t_portsTaken, .ref q_t_endAtPort, .int v_t_pipes, .ref q_t_pipeLitres, .ref q_t_thingAtEnd, .ref q_t_portAtEnd, .ref q_t_bendAtEnd, .ref q_t_inPipes])), (q_t_pipeLitres, .inl (cI, 60, .inl f_t_pipeLitres)), (q_t_inPipes, .inr (2, [.ref q_t_inPipes_words])), (q_t_inPipes_words, .inl (cL, 750, .inr (.inl f_t_inPipes_words)))]) A
set_option maxHeartbeats 4000000 in
set_option maxRecDepth 100000 in
theorem c_Pl_litreFrom (l : Launch) (dC : Nat → ClassId) (dI : Nat → Nat → Nat) (cI cL cB : ClassId) (q_t : Nat) (q_t_kind : Nat) (q_t_position : Nat) (q_t_told : Nat) (q_t_capacity : Nat) (q_t_amount : Nat) (q_t_liquid : Nat) (q_t_portsTaken : Nat) (q_t_endAtPort : Nat) (q_t_pipeLitres : Nat) (q_t_thingAtEnd : Nat) (q_t_portAtEnd : Nat) (q_t_bendAtEnd : Nat) (q_t_inPipes : Nat) (q_t_inPipes_words : Nat) (sz : Nat) (v_t_things : Int32) (v_t_pipes : Int32) (f_t_pipeLitres : (Nat → Int32)) (f_t_inPipes_words : (Nat → Int64)) (x1 : Int32) (x2 : Int32) (P : Int32 → Prop) (hw : wp_Pl_litreFrom f_t_pipeLitres f_t_inPipes_words x1 x2 P) : Met l y_Pl_litreFrom w_Pl_litreFrom rm_Pl_litreFrom (va_Pc [.ref q_t, .int x1, .int x2] (fun U => U.heap.size = sz ∧ va_P (dC, dI) classes [(q_t, .inr (1, [.int v_t_things, .ref q_t_kind, .ref q_t_position, .ref q_t_told, .ref q_t_capacity, .ref q_t_amount, .ref q_t_liquid, .ref q_t_portsTaken, .ref q_t_endAtPort, .int v_t_pipes, .ref q_t_pipeLitres, .ref q_t_thingAtEnd, .ref q_t_portAtEnd, .ref q_t_bendAtEnd, .ref q_t_inPipes])), (q_t_pipeLitres, .inl (cI, 60, .inl f_t_pipeLitres)), (q_t_inPipes, .inr (2, [.ref q_t_inPipes_words])), (q_t_inPipes_words, .inl (cL, 750, .inr (.inl f_t_inPipes_words)))] U.heap ∧ va_K (dC, dI) classes [(cI, .int), (cL, .long), (cB, .byte)] U ∧ va_D (fun _ => True) [(q_t, .inr (1, [.int v_t_things, .ref q_t_kind, .ref q_t_position, .ref q_t_told, .ref q_t_capacity, .ref q_t_amount, .ref q_t_liquid, .ref q_t_portsTaken, .ref q_t_endAtPort, .int v_t_pipes, .ref q_t_pipeLitres, .ref q_t_thingAtEnd, .ref q_t_portAtEnd, .ref q_t_bendAtEnd, .ref q_t_inPipes])), (q_t_pipeLitres, .inl (cI, 60, .inl f_t_pipeLitres)), (q_t_inPipes, .inr (2, [.ref q_t_inPipes_words])), (q_t_inPipes_words, .inl (cL, 750, .inr (.inl f_t_inPipes_words)))])) (Q_Pl_litreFrom dC dI cI cL cB q_t q_t_kind q_t_position q_t_told q_t_capacity q_t_amount q_t_liquid q_t_portsTaken q_t_endAtPort q_t_pipeLitres q_t_thingAtEnd q_t_portAtEnd q_t_bendAtEnd q_t_inPipes q_t_inPipes_words v_t_things v_t_pipes f_t_pipeLitres f_t_inPipes_words x1 x2 P (va_A [(q_t, .inr (1, [.int v_t_things, .ref q_t_kind, .ref q_t_position, .ref q_t_told, .ref q_t_capacity, .ref q_t_amount, .ref q_t_liquid, .ref q_t_portsTaken, .ref q_t_endAtPort, .int v_t_pipes, .ref q_t_pipeLitres, .ref q_t_thingAtEnd, .ref q_t_portAtEnd, .ref q_t_bendAtEnd, .ref q_t_inPipes])), (q_t_pipeLitres, .inl (cI, 60, .inl f_t_pipeLitres)), (q_t_inPipes, .inr (2, [.ref q_t_inPipes_words])), (q_t_inPipes_words, .inl (cL, 750, .inr (.inl f_t_inPipes_words)))] sz)) 0 0 (va_A [(q_t, .inr (1, [.int v_t_things, .ref q_t_kind, .ref q_t_position, .ref q_t_told, .ref q_t_capacity, .ref q_t_amount, .ref q_t_liquid, .ref q_t_portsTaken, .ref q_t_endAtPort, .int v_t_pipes, .ref q_t_pipeLitres, .ref q_t_thingAtEnd, .ref q_t_portAtEnd, .ref q_t_bendAtEnd, .ref q_t_inPipes])), (q_t_pipeLitres, .inl (cI, 60, .inl f_t_pipeLitres)), (q_t_inPipes, .inr (2, [.ref q_t_inPipes_words])), (q_t_inPipes_words, .inl (cL, 750, .inr (.inl f_t_inPipes_words)))] sz) := by
  refine Met.ofW (cc := b_Pl_litreFrom) (maxL := 3) (ret := (some .int)) (by decide) rfl ?_
  intro p e s m args below meth c s₁ B hml hv
  obtain ⟨ha, hsz, hP, hK, hD0⟩ := hv
  have hx := B.exec
  have hb := B.bytes
  have hr := B.returns
  have hts0 := atoms_spec (ws := w_Pl_litreFrom) B.pre
  have hts : ∀ w ∈ tb, w.before args s = true := fun w h => hts0 w (List.mem_cons_of_mem _ h)
  have hown : s.vm.findClass R_Pl = some m.cls := findClass_of_methodNamed B.named
  have hlocks := B.notSynchronized
  subst hsz
  have hD := hD0.self (sz := s.heap.size)
  generalize hAe : va_A [(q_t, .inr (1, [.int v_t_things, .ref q_t_kind, .ref q_t_position, .ref q_t_told, .ref q_t_capacity, .ref q_t_amount, .ref q_t_liquid, .ref q_t_portsTaken, .ref q_t_endAtPort, .int v_t_pipes, .ref q_t_pipeLitres, .ref q_t_thingAtEnd, .ref q_t_portAtEnd, .ref q_t_bendAtEnd, .ref q_t_inPipes])), (q_t_pipeLitres, .inl (cI, 60, .inl f_t_pipeLitres)), (q_t_inPipes, .inr (2, [.ref q_t_inPipes_words])), (q_t_inPipes_words, .inl (cL, 750, .inr (.inl f_t_inPipes_words)))] s.heap.size = A at hD ⊢
  have hA : ∀ q : Nat, s.heap.size ≤ q → A q := fun q h => by rw [← hAe]; exact Or.inr h
  have hS : va_S A s.heap s.heap [] := va_S.rf
  have hP : va_P (dC, dI) classes [(q_t, .inr (1, [.int v_t_things, .ref q_t_kind, .ref q_t_position, .ref q_t_told, .ref q_t_capacity, .ref q_t_amount, .ref q_t_liquid, .ref q_t_portsTaken, .ref q_t_endAtPort, .int v_t_pipes, .ref q_t_pipeLitres, .ref q_t_thingAtEnd, .ref q_t_portAtEnd, .ref q_t_bendAtEnd, .ref q_t_inPipes])), (q_t_pipeLitres, .inl (cI, 60, .inl f_t_pipeLitres)), (q_t_inPipes, .inr (2, [.ref q_t_inPipes_words])), (q_t_inPipes_words, .inl (cL, 750, .inr (.inl f_t_inPipes_words)))] s.heap := hP
  have hl := lv_entry [.ref q_t, .int x1, .int x2] (n := 3) (Nat.le_of_ble_eq_true rfl)
  have he9 : entryFrame m args 3 = F0 m 0 ((lg_sl [.ref q_t, .int x1, .int x2] ++ List.replicate (3 - (lg_sl [.ref q_t, .int x1, .int x2]).length) Slot.unset).toArray) [] := by rw [ha]; exact lg_entry_eq _ _ _
  rw [he9]
  clear he9
  generalize (lg_sl [.ref q_t, .int x1, .int x2] ++ List.replicate (3 - (lg_sl [.ref q_t, .int x1, .int x2]).length) Slot.unset).toArray = ls at hl ⊢
  have hl : lv_has ls 3 [(0, .ref q_t), (1, .int x1), (2, .int x2)] := hl
  unfold wp_Pl_litreFrom at hw
  refine lv_aload_n hx hb d_Pl_litreFrom_0 rfl (lv_at hl 0 rfl) ?_
  refine va_get (D := (dC, dI)) (ci := 1) (v := .ref q_t_inPipes) (C := R_Pl) (T := F_Pl) (N := 15) hx hb hts i_Pl hown hK hP 0 rfl rfl 14 (by decide) (hts (Cond.fieldLink R_Pl 51 "PlantGraph$Plant" "inPipes" "LPlantGraph$Litres;") kw15_11754c3) (fun _ h9 => h9) rfl d_Pl_litreFrom_1 ?_
  refine lv_aload_n hx hb d_Pl_litreFrom_4 rfl (lv_at hl 0 rfl) ?_
  refine lv_iload_n hx hb d_Pl_litreFrom_5 rfl (lv_at hl 1 rfl) ?_
  refine lv_iload_n hx hb d_Pl_litreFrom_6 rfl (lv_at hl 2 rfl) ?_
  have hPc := hP.sub (ws' := [(q_t, .inr (1, [.int v_t_things, .ref q_t_kind, .ref q_t_position, .ref q_t_told, .ref q_t_capacity, .ref q_t_amount, .ref q_t_liquid, .ref q_t_portsTaken, .ref q_t_endAtPort, .int v_t_pipes, .ref q_t_pipeLitres, .ref q_t_thingAtEnd, .ref q_t_portAtEnd, .ref q_t_bendAtEnd, .ref q_t_inPipes])), (q_t_pipeLitres, .inl (cI, 60, .inl f_t_pipeLitres))]) [0, 1] rfl
  have hDc := hD.sub (ws' := [(q_t, .inr (1, [.int v_t_things, .ref q_t_kind, .ref q_t_position, .ref q_t_told, .ref q_t_capacity, .ref q_t_amount, .ref q_t_liquid, .ref q_t_portsTaken, .ref q_t_endAtPort, .int v_t_pipes, .ref q_t_pipeLitres, .ref q_t_thingAtEnd, .ref q_t_portAtEnd, .ref q_t_bendAtEnd, .ref q_t_inPipes])), (q_t_pipeLitres, .inl (cI, 60, .inl f_t_pipeLitres))]) [0, 1] (by decide) rfl
  have hFc := va_free (wc := [(q_t, .inr (1, [.int v_t_things, .ref q_t_kind, .ref q_t_position, .ref q_t_told, .ref q_t_capacity, .ref q_t_amount, .ref q_t_liquid, .ref q_t_portsTaken, .ref q_t_endAtPort, .int v_t_pipes, .ref q_t_pipeLitres, .ref q_t_thingAtEnd, .ref q_t_portAtEnd, .ref q_t_bendAtEnd, .ref q_t_inPipes])), (q_t_pipeLitres, .inl (cI, 60, .inl f_t_pipeLitres))]) hD hS hA [0, 1] rfl
  refine va_calli (va_runV (As := [.int x1, .int x2]) (rest := [.ref q_t_inPipes]) ⟨hx, hb, hml, hown, hts⟩ (c_Pl_placeFrom l dC dI cI cL cB q_t q_t_kind q_t_position q_t_told q_t_capacity q_t_amount q_t_liquid q_t_portsTaken q_t_endAtPort q_t_pipeLitres q_t_thingAtEnd q_t_portAtEnd q_t_bendAtEnd q_t_inPipes s.heap.size v_t_things v_t_pipes f_t_pipeLitres x1 x2 _ hw) (my_cwV 2 hts kw15_ede422d kw15_5443c73 kw15_f65f302 kw15_cd65af8 kw15_30f0392 rfl rfl (by decide +kernel) ⟨Nat.le_of_ble_eq_true rfl, Nat.le_of_ble_eq_true rfl⟩) ⟨fun a U g mk q => by obtain ⟨q0, q1, qP, qK, qD⟩ := q; exact ⟨q0, q1, qP, va_K.moved (u := U) (U := U.calling g mk a) (Vm.Alike.refl U.vm) qK, qD⟩, va_recv hK hP (ci := 1) (q0 := 0) rfl rfl, fun U hU hW => ⟨rfl, by rw [hU], by rw [hU]; exact hPc, va_K.moved hW.alike hK, hDc.weaken (fun _ _ _ _ => trivial)⟩⟩ rfl rfl hl.1 rfl (lv_room (Nat.le_of_ble_eq_true rfl)) d_Pl_litreFrom_7 ⟨Nat.zero_le _, Nat.zero_le _⟩) hS (fun q _ h => hFc q h) hFc (fun r7 u t H locs ht hvm hw hB hz1 hk1 hS => ?_)
  obtain ⟨hP1, hK1, hD1⟩ := hB
  rw [ht] at hP1
  obtain ⟨hP, hD⟩ := va_join (wr := [(q_t_inPipes, .inr (2, [.ref q_t_inPipes_words])), (q_t_inPipes_words, .inl (cL, 750, .inr (.inl f_t_inPipes_words)))]) (w1 := [(q_t, .inr (1, [.int v_t_things, .ref q_t_kind, .ref q_t_position, .ref q_t_told, .ref q_t_capacity, .ref q_t_amount, .ref q_t_liquid, .ref q_t_portsTaken, .ref q_t_endAtPort, .int v_t_pipes, .ref q_t_pipeLitres, .ref q_t_thingAtEnd, .ref q_t_portAtEnd, .ref q_t_bendAtEnd, .ref q_t_inPipes])), (q_t_pipeLitres, .inl (cI, 60, .inl f_t_pipeLitres))]) hP hD [0, 1] [2, 3] rfl rfl (by decide) (by decide) hk1 hFc hP1 hD1
  have hP : va_P (dC, dI) classes [(q_t, .inr (1, [.int v_t_things, .ref q_t_kind, .ref q_t_position, .ref q_t_told, .ref q_t_capacity, .ref q_t_amount, .ref q_t_liquid, .ref q_t_portsTaken, .ref q_t_endAtPort, .int v_t_pipes, .ref q_t_pipeLitres, .ref q_t_thingAtEnd, .ref q_t_portAtEnd, .ref q_t_bendAtEnd, .ref q_t_inPipes])), (q_t_pipeLitres, .inl (cI, 60, .inl f_t_pipeLitres)), (q_t_inPipes, .inr (2, [.ref q_t_inPipes_words])), (q_t_inPipes_words, .inl (cL, 750, .inr (.inl f_t_inPipes_words)))] H := hP.sub (ws' := [(q_t, .inr (1, [.int v_t_things, .ref q_t_kind, .ref q_t_position, .ref q_t_told, .ref q_t_capacity, .ref q_t_amount, .ref q_t_liquid, .ref q_t_portsTaken, .ref q_t_endAtPort, .int v_t_pipes, .ref q_t_pipeLitres, .ref q_t_thingAtEnd, .ref q_t_portAtEnd, .ref q_t_bendAtEnd, .ref q_t_inPipes])), (q_t_pipeLitres, .inl (cI, 60, .inl f_t_pipeLitres)), (q_t_inPipes, .inr (2, [.ref q_t_inPipes_words])), (q_t_inPipes_words, .inl (cL, 750, .inr (.inl f_t_inPipes_words)))]) [2, 3, 0, 1] rfl
  have hD : va_D A [(q_t, .inr (1, [.int v_t_things, .ref q_t_kind, .ref q_t_position, .ref q_t_told, .ref q_t_capacity, .ref q_t_amount, .ref q_t_liquid, .ref q_t_portsTaken, .ref q_t_endAtPort, .int v_t_pipes, .ref q_t_pipeLitres, .ref q_t_thingAtEnd, .ref q_t_portAtEnd, .ref q_t_bendAtEnd, .ref q_t_inPipes])), (q_t_pipeLitres, .inl (cI, 60, .inl f_t_pipeLitres)), (q_t_inPipes, .inr (2, [.ref q_t_inPipes_words])), (q_t_inPipes_words, .inl (cL, 750, .inr (.inl f_t_inPipes_words)))] := hD.sub (ws' := [(q_t, .inr (1, [.int v_t_things, .ref q_t_kind, .ref q_t_position, .ref q_t_told, .ref q_t_capacity, .ref q_t_amount, .ref q_t_liquid, .ref q_t_portsTaken, .ref q_t_endAtPort, .int v_t_pipes, .ref q_t_pipeLitres, .ref q_t_thingAtEnd, .ref q_t_portAtEnd, .ref q_t_bendAtEnd, .ref q_t_inPipes])), (q_t_pipeLitres, .inl (cI, 60, .inl f_t_pipeLitres)), (q_t_inPipes, .inr (2, [.ref q_t_inPipes_words])), (q_t_inPipes_words, .inl (cL, 750, .inr (.inl f_t_inPipes_words)))]) [2, 3, 0, 1] (by decide) rfl
  have hPc := hP.sub (ws' := [(q_t_inPipes, .inr (2, [.ref q_t_inPipes_words])), (q_t_inPipes_words, .inl (cL, 750, .inr (.inl f_t_inPipes_words)))]) [2, 3] rfl
  have hDc := hD.sub (ws' := [(q_t_inPipes, .inr (2, [.ref q_t_inPipes_words])), (q_t_inPipes_words, .inl (cL, 750, .inr (.inl f_t_inPipes_words)))]) [2, 3] (by decide) rfl
  have hFc := va_free (wc := [(q_t_inPipes, .inr (2, [.ref q_t_inPipes_words])), (q_t_inPipes_words, .inl (cL, 750, .inr (.inl f_t_inPipes_words)))]) hD hS hA [2, 3] rfl
  refine va_calli (va_runV (As := [.int r7]) (rest := []) ⟨hx, hb, hml, hown, hts⟩ (c_Li_at l dC dI cI cL cB q_t_inPipes q_t_inPipes_words H.size f_t_inPipes_words r7 _ hw) (my_cwV 1 hts kw15_b43a487 kw15_0830191 kw15_530dcf1 kw15_59924f3 kw15_f0d6064 rfl rfl (by decide +kernel) ⟨Nat.le_of_ble_eq_true rfl, Nat.le_of_ble_eq_true rfl⟩) ⟨fun a U g mk q => by obtain ⟨q0, q1, qP, qK, qD⟩ := q; exact ⟨q0, q1, qP, va_K.moved (u := U) (U := U.calling g mk a) (Vm.Alike.refl U.vm) qK, qD⟩, va_recv hK hP (ci := 2) (q0 := 2) rfl rfl, fun U hU hW => ⟨rfl, by rw [hU], by rw [hU]; exact hPc, va_K.moved hW.alike hK, hDc.weaken (fun _ _ _ _ => trivial)⟩⟩ rfl rfl hl.1 rfl (lv_room (Nat.le_of_ble_eq_true rfl)) d_Pl_litreFrom_10 ⟨Nat.zero_le _, Nat.zero_le _⟩) hS (fun q _ h => hFc q h) hFc (fun r10 u t H locs ht hvm hw hB hz1 hk1 hS => ?_)
  obtain ⟨hP1, hK1, hD1⟩ := hB
  rw [ht] at hP1
  obtain ⟨hP, hD⟩ := va_join (wr := [(q_t, .inr (1, [.int v_t_things, .ref q_t_kind, .ref q_t_position, .ref q_t_told, .ref q_t_capacity, .ref q_t_amount, .ref q_t_liquid, .ref q_t_portsTaken, .ref q_t_endAtPort, .int v_t_pipes, .ref q_t_pipeLitres, .ref q_t_thingAtEnd, .ref q_t_portAtEnd, .ref q_t_bendAtEnd, .ref q_t_inPipes])), (q_t_pipeLitres, .inl (cI, 60, .inl f_t_pipeLitres))]) (w1 := [(q_t_inPipes, .inr (2, [.ref q_t_inPipes_words])), (q_t_inPipes_words, .inl (cL, 750, .inr (.inl f_t_inPipes_words)))]) hP hD [2, 3] [0, 1] rfl rfl (by decide) (by decide) hk1 hFc hP1 hD1
  have hP : va_P (dC, dI) classes [(q_t, .inr (1, [.int v_t_things, .ref q_t_kind, .ref q_t_position, .ref q_t_told, .ref q_t_capacity, .ref q_t_amount, .ref q_t_liquid, .ref q_t_portsTaken, .ref q_t_endAtPort, .int v_t_pipes, .ref q_t_pipeLitres, .ref q_t_thingAtEnd, .ref q_t_portAtEnd, .ref q_t_bendAtEnd, .ref q_t_inPipes])), (q_t_pipeLitres, .inl (cI, 60, .inl f_t_pipeLitres)), (q_t_inPipes, .inr (2, [.ref q_t_inPipes_words])), (q_t_inPipes_words, .inl (cL, 750, .inr (.inl f_t_inPipes_words)))] H := hP.sub (ws' := [(q_t, .inr (1, [.int v_t_things, .ref q_t_kind, .ref q_t_position, .ref q_t_told, .ref q_t_capacity, .ref q_t_amount, .ref q_t_liquid, .ref q_t_portsTaken, .ref q_t_endAtPort, .int v_t_pipes, .ref q_t_pipeLitres, .ref q_t_thingAtEnd, .ref q_t_portAtEnd, .ref q_t_bendAtEnd, .ref q_t_inPipes])), (q_t_pipeLitres, .inl (cI, 60, .inl f_t_pipeLitres)), (q_t_inPipes, .inr (2, [.ref q_t_inPipes_words])), (q_t_inPipes_words, .inl (cL, 750, .inr (.inl f_t_inPipes_words)))]) [0, 1, 2, 3] rfl
  have hD : va_D A [(q_t, .inr (1, [.int v_t_things, .ref q_t_kind, .ref q_t_position, .ref q_t_told, .ref q_t_capacity, .ref q_t_amount, .ref q_t_liquid, .ref q_t_portsTaken, .ref q_t_endAtPort, .int v_t_pipes, .ref q_t_pipeLitres, .ref q_t_thingAtEnd, .ref q_t_portAtEnd, .ref q_t_bendAtEnd, .ref q_t_inPipes])), (q_t_pipeLitres, .inl (cI, 60, .inl f_t_pipeLitres)), (q_t_inPipes, .inr (2, [.ref q_t_inPipes_words])), (q_t_inPipes_words, .inl (cL, 750, .inr (.inl f_t_inPipes_words)))] := hD.sub (ws' := [(q_t, .inr (1, [.int v_t_things, .ref q_t_kind, .ref q_t_position, .ref q_t_told, .ref q_t_capacity, .ref q_t_amount, .ref q_t_liquid, .ref q_t_portsTaken, .ref q_t_endAtPort, .int v_t_pipes, .ref q_t_pipeLitres, .ref q_t_thingAtEnd, .ref q_t_portAtEnd, .ref q_t_bendAtEnd, .ref q_t_inPipes])), (q_t_pipeLitres, .inl (cI, 60, .inl f_t_pipeLitres)), (q_t_inPipes, .inr (2, [.ref q_t_inPipes_words])), (q_t_inPipes_words, .inl (cL, 750, .inr (.inl f_t_inPipes_words)))]) [0, 1, 2, 3] (by decide) rfl
  exact W.iret (v := r10) hx hb hr (fun t ht hW => ⟨⟨r10, (), rfl, hw, by rw [ht]; exact hP, va_K.moved hW.alike hK, hD⟩, hS.F ht⟩) hS.2.2 d_Pl_litreFrom_13
def wp_Pl_setLitreFrom (f_t_pipeLitres : (Nat → Int32)) (f_t_inPipes_words : (Nat → Int64)) (x1 : Int32) (x2 : Int32) (x3 : Int32) (P : (Nat → Int64) → Prop) : Prop := wp_Pl_placeFrom f_t_pipeLitres x1 x2 (fun r7 => wp_Li_set f_t_inPipes_words r7 x3 (fun f_t_inPipes_words_c11 => P f_t_inPipes_words_c11))
def w_Pl_setLitreFrom : List Cond := .code y_Pl_setLitreFrom b_Pl_setLitreFrom 4 none :: tb
abbrev rm_Pl_setLitreFrom : Room := { frames := 2, cells := 0, slots := 0, locals := 49 }
abbrev Q_Pl_setLitreFrom (dC : Nat → ClassId) (dI : Nat → Nat → Nat) (cI cL cB : ClassId) (q_t : Nat) (q_t_kind : Nat) (q_t_position : Nat) (q_t_told : Nat) (q_t_capacity : Nat) (q_t_amount : Nat) (q_t_liquid : Nat) (q_t_portsTaken : Nat) (q_t_endAtPort : Nat) (q_t_pipeLitres : Nat) (q_t_thingAtEnd : Nat) (q_t_portAtEnd : Nat) (q_t_bendAtEnd : Nat) (q_t_inPipes : Nat) (q_t_inPipes_words : Nat) (v_t_things : Int32) (v_t_pipes : Int32) (f_t_pipeLitres : (Nat → Int32)) (f_t_inPipes_words : (Nat → Int64)) (x1 : Int32) (x2 : Int32) (x3 : Int32) (P : (Nat → Int64) → Prop) (A : Nat → Prop) : Array Value → State → Outcome → State → Prop := va_Qv (fun (u : (Nat → Int64)) => P u) (fun u t => va_P (dC, dI) classes [(q_t, .inr (1, [.int v_t_things, .ref q_t_kind, .ref q_t_position, .ref q_t_told, .ref q_t_capacity, .ref q_t_amount, .ref q_t_liquid, .ref q_t_portsTaken, .ref q_t_endAtPort, .int v_t_pipes, .ref q_t_pipeLitres, .ref q_t_thingAtEnd, .ref q_t_portAtEnd, .ref q_t_bendAtEnd, .ref q_t_inPipes])), (q_t_pipeLitres, .inl (cI, 60, .inl f_t_pipeLitres)), (q_t_inPipes, .inr (2, [.ref q_t_inPipes_words])), (q_t_inPipes_words, .inl (cL, 750, .inr (.inl u)))] t.heap ∧ va_K (dC, dI) classes [(cI, .int), (cL, .long), (cB, .byte)] t ∧ va_D A [(q_t, .inr (1, [.int v_t_things, .ref q_t_kind, .ref q_t_position, .ref q_t_told, .ref q_t_capacity, .ref q_t_amount, .ref q_t_liquid, .ref q_t_portsTaken, .ref q_t_endAtPort, .int v_t_pipes, .ref q_t_pipeLitres, .ref q_t_thingAtEnd, .ref q_t_portAtEnd, .ref q_t_bendAtEnd, .ref q_t_inPipes])), (q_t_pipeLitres, .inl (cI, 60, .inl f_t_pipeLitres)), (q_t_inPipes, .inr (2, [.ref q_t_inPipes_words])), (q_t_inPipes_words, .inl (cL, 750, .inr (.inl u)))]) A
set_option maxHeartbeats 4000000 in
set_option maxRecDepth 100000 in
theorem c_Pl_setLitreFrom (l : Launch) (dC : Nat → ClassId) (dI : Nat → Nat → Nat) (cI cL cB : ClassId) (q_t : Nat) (q_t_kind : Nat) (q_t_position : Nat) (q_t_told : Nat) (q_t_capacity : Nat) (q_t_amount : Nat) (q_t_liquid : Nat) (q_t_portsTaken : Nat) (q_t_endAtPort : Nat) (q_t_pipeLitres : Nat) (q_t_thingAtEnd : Nat) (q_t_portAtEnd : Nat) (q_t_bendAtEnd : Nat) (q_t_inPipes : Nat) (q_t_inPipes_words : Nat) (sz : Nat) (v_t_things : Int32) (v_t_pipes : Int32) (f_t_pipeLitres : (Nat → Int32)) (f_t_inPipes_words : (Nat → Int64)) (x1 : Int32) (x2 : Int32) (x3 : Int32) (P : (Nat → Int64) → Prop) (hw : wp_Pl_setLitreFrom f_t_pipeLitres f_t_inPipes_words x1 x2 x3 P) : Met l y_Pl_setLitreFrom w_Pl_setLitreFrom rm_Pl_setLitreFrom (va_Pc [.ref q_t, .int x1, .int x2, .int x3] (fun U => U.heap.size = sz ∧ va_P (dC, dI) classes [(q_t, .inr (1, [.int v_t_things, .ref q_t_kind, .ref q_t_position, .ref q_t_told, .ref q_t_capacity, .ref q_t_amount, .ref q_t_liquid, .ref q_t_portsTaken, .ref q_t_endAtPort, .int v_t_pipes, .ref q_t_pipeLitres, .ref q_t_thingAtEnd, .ref q_t_portAtEnd, .ref q_t_bendAtEnd, .ref q_t_inPipes])), (q_t_pipeLitres, .inl (cI, 60, .inl f_t_pipeLitres)), (q_t_inPipes, .inr (2, [.ref q_t_inPipes_words])), (q_t_inPipes_words, .inl (cL, 750, .inr (.inl f_t_inPipes_words)))] U.heap ∧ va_K (dC, dI) classes [(cI, .int), (cL, .long), (cB, .byte)] U ∧ va_D (fun _ => True) [(q_t, .inr (1, [.int v_t_things, .ref q_t_kind, .ref q_t_position, .ref q_t_told, .ref q_t_capacity, .ref q_t_amount, .ref q_t_liquid, .ref q_t_portsTaken, .ref q_t_endAtPort, .int v_t_pipes, .ref q_t_pipeLitres, .ref q_t_thingAtEnd, .ref q_t_portAtEnd, .ref q_t_bendAtEnd, .ref q_t_inPipes])), (q_t_pipeLitres, .inl (cI, 60, .inl f_t_pipeLitres)), (q_t_inPipes, .inr (2, [.ref q_t_inPipes_words])), (q_t_inPipes_words, .inl (cL, 750, .inr (.inl f_t_inPipes_words)))])) (Q_Pl_setLitreFrom dC dI cI cL cB q_t q_t_kind q_t_position q_t_told q_t_capacity q_t_amount q_t_liquid q_t_portsTaken q_t_endAtPort q_t_pipeLitres q_t_thingAtEnd q_t_portAtEnd q_t_bendAtEnd q_t_inPipes q_t_inPipes_words v_t_things v_t_pipes f_t_pipeLitres f_t_inPipes_words x1 x2 x3 P (va_A [(q_t, .inr (1, [.int v_t_things, .ref q_t_kind, .ref q_t_position, .ref q_t_told, .ref q_t_capacity, .ref q_t_amount, .ref q_t_liquid, .ref q_t_portsTaken, .ref q_t_endAtPort, .int v_t_pipes, .ref q_t_pipeLitres, .ref q_t_thingAtEnd, .ref q_t_portAtEnd, .ref q_t_bendAtEnd, .ref q_t_inPipes])), (q_t_pipeLitres, .inl (cI, 60, .inl f_t_pipeLitres)), (q_t_inPipes, .inr (2, [.ref q_t_inPipes_words])), (q_t_inPipes_words, .inl (cL, 750, .inr (.inl f_t_inPipes_words)))] sz)) 0 0 (va_A [(q_t, .inr (1, [.int v_t_things, .ref q_t_kind, .ref q_t_position, .ref q_t_told, .ref q_t_capacity, .ref q_t_amount, .ref q_t_liquid, .ref q_t_portsTaken, .ref q_t_endAtPort, .int v_t_pipes, .ref q_t_pipeLitres, .ref q_t_thingAtEnd, .ref q_t_portAtEnd, .ref q_t_bendAtEnd, .ref q_t_inPipes])), (q_t_pipeLitres, .inl (cI, 60, .inl f_t_pipeLitres)), (q_t_inPipes, .inr (2, [.ref q_t_inPipes_words])), (q_t_inPipes_words, .inl (cL, 750, .inr (.inl f_t_inPipes_words)))] sz) := by
  refine Met.ofW (cc := b_Pl_setLitreFrom) (maxL := 4) (ret := none) (by decide) rfl ?_
  intro p e s m args below meth c s₁ B hml hv
  obtain ⟨ha, hsz, hP, hK, hD0⟩ := hv
  have hx := B.exec
  have hb := B.bytes
  have hr := B.returns
  have hts0 := atoms_spec (ws := w_Pl_setLitreFrom) B.pre
  have hts : ∀ w ∈ tb, w.before args s = true := fun w h => hts0 w (List.mem_cons_of_mem _ h)
  have hown : s.vm.findClass R_Pl = some m.cls := findClass_of_methodNamed B.named
  have hlocks := B.notSynchronized
  subst hsz
  have hD := hD0.self (sz := s.heap.size)
  generalize hAe : va_A [(q_t, .inr (1, [.int v_t_things, .ref q_t_kind, .ref q_t_position, .ref q_t_told, .ref q_t_capacity, .ref q_t_amount, .ref q_t_liquid, .ref q_t_portsTaken, .ref q_t_endAtPort, .int v_t_pipes, .ref q_t_pipeLitres, .ref q_t_thingAtEnd, .ref q_t_portAtEnd, .ref q_t_bendAtEnd, .ref q_t_inPipes])), (q_t_pipeLitres, .inl (cI, 60, .inl f_t_pipeLitres)), (q_t_inPipes, .inr (2, [.ref q_t_inPipes_words])), (q_t_inPipes_words, .inl (cL, 750, .inr (.inl f_t_inPipes_words)))] s.heap.size = A at hD ⊢
  have hA : ∀ q : Nat, s.heap.size ≤ q → A q := fun q h => by rw [← hAe]; exact Or.inr h
  have hS : va_S A s.heap s.heap [] := va_S.rf
  have hP : va_P (dC, dI) classes [(q_t, .inr (1, [.int v_t_things, .ref q_t_kind, .ref q_t_position, .ref q_t_told, .ref q_t_capacity, .ref q_t_amount, .ref q_t_liquid, .ref q_t_portsTaken, .ref q_t_endAtPort, .int v_t_pipes, .ref q_t_pipeLitres, .ref q_t_thingAtEnd, .ref q_t_portAtEnd, .ref q_t_bendAtEnd, .ref q_t_inPipes])), (q_t_pipeLitres, .inl (cI, 60, .inl f_t_pipeLitres)), (q_t_inPipes, .inr (2, [.ref q_t_inPipes_words])), (q_t_inPipes_words, .inl (cL, 750, .inr (.inl f_t_inPipes_words)))] s.heap := hP
  have hl := lv_entry [.ref q_t, .int x1, .int x2, .int x3] (n := 4) (Nat.le_of_ble_eq_true rfl)
  have he9 : entryFrame m args 4 = F0 m 0 ((lg_sl [.ref q_t, .int x1, .int x2, .int x3] ++ List.replicate (4 - (lg_sl [.ref q_t, .int x1, .int x2, .int x3]).length) Slot.unset).toArray) [] := by rw [ha]; exact lg_entry_eq _ _ _
  rw [he9]
  clear he9
  generalize (lg_sl [.ref q_t, .int x1, .int x2, .int x3] ++ List.replicate (4 - (lg_sl [.ref q_t, .int x1, .int x2, .int x3]).length) Slot.unset).toArray = ls at hl ⊢
  have hl : lv_has ls 4 [(0, .ref q_t), (1, .int x1), (2, .int x2), (3, .int x3)] := hl
  unfold wp_Pl_setLitreFrom at hw
  refine lv_aload_n hx hb d_Pl_setLitreFrom_0 rfl (lv_at hl 0 rfl) ?_
  refine va_get (D := (dC, dI)) (ci := 1) (v := .ref q_t_inPipes) (C := R_Pl) (T := F_Pl) (N := 15) hx hb hts i_Pl hown hK hP 0 rfl rfl 14 (by decide) (hts (Cond.fieldLink R_Pl 51 "PlantGraph$Plant" "inPipes" "LPlantGraph$Litres;") kw15_11754c3) (fun _ h9 => h9) rfl d_Pl_setLitreFrom_1 ?_
  refine lv_aload_n hx hb d_Pl_setLitreFrom_4 rfl (lv_at hl 0 rfl) ?_
  refine lv_iload_n hx hb d_Pl_setLitreFrom_5 rfl (lv_at hl 1 rfl) ?_
  refine lv_iload_n hx hb d_Pl_setLitreFrom_6 rfl (lv_at hl 2 rfl) ?_
  have hPc := hP.sub (ws' := [(q_t, .inr (1, [.int v_t_things, .ref q_t_kind, .ref q_t_position, .ref q_t_told, .ref q_t_capacity, .ref q_t_amount, .ref q_t_liquid, .ref q_t_portsTaken, .ref q_t_endAtPort, .int v_t_pipes, .ref q_t_pipeLitres, .ref q_t_thingAtEnd, .ref q_t_portAtEnd, .ref q_t_bendAtEnd, .ref q_t_inPipes])), (q_t_pipeLitres, .inl (cI, 60, .inl f_t_pipeLitres))]) [0, 1] rfl
  have hDc := hD.sub (ws' := [(q_t, .inr (1, [.int v_t_things, .ref q_t_kind, .ref q_t_position, .ref q_t_told, .ref q_t_capacity, .ref q_t_amount, .ref q_t_liquid, .ref q_t_portsTaken, .ref q_t_endAtPort, .int v_t_pipes, .ref q_t_pipeLitres, .ref q_t_thingAtEnd, .ref q_t_portAtEnd, .ref q_t_bendAtEnd, .ref q_t_inPipes])), (q_t_pipeLitres, .inl (cI, 60, .inl f_t_pipeLitres))]) [0, 1] (by decide) rfl
  have hFc := va_free (wc := [(q_t, .inr (1, [.int v_t_things, .ref q_t_kind, .ref q_t_position, .ref q_t_told, .ref q_t_capacity, .ref q_t_amount, .ref q_t_liquid, .ref q_t_portsTaken, .ref q_t_endAtPort, .int v_t_pipes, .ref q_t_pipeLitres, .ref q_t_thingAtEnd, .ref q_t_portAtEnd, .ref q_t_bendAtEnd, .ref q_t_inPipes])), (q_t_pipeLitres, .inl (cI, 60, .inl f_t_pipeLitres))]) hD hS hA [0, 1] rfl
  refine va_calli (va_runV (As := [.int x1, .int x2]) (rest := [.ref q_t_inPipes]) ⟨hx, hb, hml, hown, hts⟩ (c_Pl_placeFrom l dC dI cI cL cB q_t q_t_kind q_t_position q_t_told q_t_capacity q_t_amount q_t_liquid q_t_portsTaken q_t_endAtPort q_t_pipeLitres q_t_thingAtEnd q_t_portAtEnd q_t_bendAtEnd q_t_inPipes s.heap.size v_t_things v_t_pipes f_t_pipeLitres x1 x2 _ hw) (my_cwV 2 hts kw15_ede422d kw15_5443c73 kw15_f65f302 kw15_cd65af8 kw15_30f0392 rfl rfl (by decide +kernel) ⟨Nat.le_of_ble_eq_true rfl, Nat.le_of_ble_eq_true rfl⟩) ⟨fun a U g mk q => by obtain ⟨q0, q1, qP, qK, qD⟩ := q; exact ⟨q0, q1, qP, va_K.moved (u := U) (U := U.calling g mk a) (Vm.Alike.refl U.vm) qK, qD⟩, va_recv hK hP (ci := 1) (q0 := 0) rfl rfl, fun U hU hW => ⟨rfl, by rw [hU], by rw [hU]; exact hPc, va_K.moved hW.alike hK, hDc.weaken (fun _ _ _ _ => trivial)⟩⟩ rfl rfl hl.1 rfl (lv_room (Nat.le_of_ble_eq_true rfl)) d_Pl_setLitreFrom_7 ⟨Nat.zero_le _, Nat.zero_le _⟩) hS (fun q _ h => hFc q h) hFc (fun r7 u t H locs ht hvm hw hB hz1 hk1 hS => ?_)
  obtain ⟨hP1, hK1, hD1⟩ := hB
  rw [ht] at hP1
  obtain ⟨hP, hD⟩ := va_join (wr := [(q_t_inPipes, .inr (2, [.ref q_t_inPipes_words])), (q_t_inPipes_words, .inl (cL, 750, .inr (.inl f_t_inPipes_words)))]) (w1 := [(q_t, .inr (1, [.int v_t_things, .ref q_t_kind, .ref q_t_position, .ref q_t_told, .ref q_t_capacity, .ref q_t_amount, .ref q_t_liquid, .ref q_t_portsTaken, .ref q_t_endAtPort, .int v_t_pipes, .ref q_t_pipeLitres, .ref q_t_thingAtEnd, .ref q_t_portAtEnd, .ref q_t_bendAtEnd, .ref q_t_inPipes])), (q_t_pipeLitres, .inl (cI, 60, .inl f_t_pipeLitres))]) hP hD [0, 1] [2, 3] rfl rfl (by decide) (by decide) hk1 hFc hP1 hD1
  have hP : va_P (dC, dI) classes [(q_t, .inr (1, [.int v_t_things, .ref q_t_kind, .ref q_t_position, .ref q_t_told, .ref q_t_capacity, .ref q_t_amount, .ref q_t_liquid, .ref q_t_portsTaken, .ref q_t_endAtPort, .int v_t_pipes, .ref q_t_pipeLitres, .ref q_t_thingAtEnd, .ref q_t_portAtEnd, .ref q_t_bendAtEnd, .ref q_t_inPipes])), (q_t_pipeLitres, .inl (cI, 60, .inl f_t_pipeLitres)), (q_t_inPipes, .inr (2, [.ref q_t_inPipes_words])), (q_t_inPipes_words, .inl (cL, 750, .inr (.inl f_t_inPipes_words)))] H := hP.sub (ws' := [(q_t, .inr (1, [.int v_t_things, .ref q_t_kind, .ref q_t_position, .ref q_t_told, .ref q_t_capacity, .ref q_t_amount, .ref q_t_liquid, .ref q_t_portsTaken, .ref q_t_endAtPort, .int v_t_pipes, .ref q_t_pipeLitres, .ref q_t_thingAtEnd, .ref q_t_portAtEnd, .ref q_t_bendAtEnd, .ref q_t_inPipes])), (q_t_pipeLitres, .inl (cI, 60, .inl f_t_pipeLitres)), (q_t_inPipes, .inr (2, [.ref q_t_inPipes_words])), (q_t_inPipes_words, .inl (cL, 750, .inr (.inl f_t_inPipes_words)))]) [2, 3, 0, 1] rfl
  have hD : va_D A [(q_t, .inr (1, [.int v_t_things, .ref q_t_kind, .ref q_t_position, .ref q_t_told, .ref q_t_capacity, .ref q_t_amount, .ref q_t_liquid, .ref q_t_portsTaken, .ref q_t_endAtPort, .int v_t_pipes, .ref q_t_pipeLitres, .ref q_t_thingAtEnd, .ref q_t_portAtEnd, .ref q_t_bendAtEnd, .ref q_t_inPipes])), (q_t_pipeLitres, .inl (cI, 60, .inl f_t_pipeLitres)), (q_t_inPipes, .inr (2, [.ref q_t_inPipes_words])), (q_t_inPipes_words, .inl (cL, 750, .inr (.inl f_t_inPipes_words)))] := hD.sub (ws' := [(q_t, .inr (1, [.int v_t_things, .ref q_t_kind, .ref q_t_position, .ref q_t_told, .ref q_t_capacity, .ref q_t_amount, .ref q_t_liquid, .ref q_t_portsTaken, .ref q_t_endAtPort, .int v_t_pipes, .ref q_t_pipeLitres, .ref q_t_thingAtEnd, .ref q_t_portAtEnd, .ref q_t_bendAtEnd, .ref q_t_inPipes])), (q_t_pipeLitres, .inl (cI, 60, .inl f_t_pipeLitres)), (q_t_inPipes, .inr (2, [.ref q_t_inPipes_words])), (q_t_inPipes_words, .inl (cL, 750, .inr (.inl f_t_inPipes_words)))]) [2, 3, 0, 1] (by decide) rfl
  refine lv_iload_n hx hb d_Pl_setLitreFrom_10 rfl (lv_at hl 3 rfl) ?_
  have hPc := hP.sub (ws' := [(q_t_inPipes, .inr (2, [.ref q_t_inPipes_words])), (q_t_inPipes_words, .inl (cL, 750, .inr (.inl f_t_inPipes_words)))]) [2, 3] rfl
  have hDc := hD.sub (ws' := [(q_t_inPipes, .inr (2, [.ref q_t_inPipes_words])), (q_t_inPipes_words, .inl (cL, 750, .inr (.inl f_t_inPipes_words)))]) [2, 3] (by decide) rfl
  have hFc := va_free (wc := [(q_t_inPipes, .inr (2, [.ref q_t_inPipes_words])), (q_t_inPipes_words, .inl (cL, 750, .inr (.inl f_t_inPipes_words)))]) hD hS hA [2, 3] rfl
  refine va_callv (va_runV (As := [.int r7, .int x3]) (rest := []) ⟨hx, hb, hml, hown, hts⟩ (c_Li_set l dC dI cI cL cB q_t_inPipes q_t_inPipes_words H.size f_t_inPipes_words r7 x3 _ hw) (my_cwV 2 hts kw15_99e8369 kw15_6eae34d kw15_c12498c kw15_59924f3 kw15_37ce619 rfl rfl (by decide +kernel) ⟨Nat.le_of_ble_eq_true rfl, Nat.le_of_ble_eq_true rfl⟩) ⟨fun a U g mk q => by obtain ⟨q0, q1, qP, qK, qD⟩ := q; exact ⟨q0, q1, qP, va_K.moved (u := U) (U := U.calling g mk a) (Vm.Alike.refl U.vm) qK, qD⟩, va_recv hK hP (ci := 2) (q0 := 2) rfl rfl, fun U hU hW => ⟨rfl, by rw [hU], by rw [hU]; exact hPc, va_K.moved hW.alike hK, hDc.weaken (fun _ _ _ _ => trivial)⟩⟩ rfl rfl hl.1 rfl (lv_room (Nat.le_of_ble_eq_true rfl)) d_Pl_setLitreFrom_11 ⟨Nat.zero_le _, Nat.zero_le _⟩) hS (fun q _ h => hFc q h) hFc (fun f_t_inPipes_words_c11 t H locs ht hvm hw hB hz1 hk1 hS => ?_)
  obtain ⟨hP1, hK1, hD1⟩ := hB
  rw [ht] at hP1
  obtain ⟨hP, hD⟩ := va_join (wr := [(q_t, .inr (1, [.int v_t_things, .ref q_t_kind, .ref q_t_position, .ref q_t_told, .ref q_t_capacity, .ref q_t_amount, .ref q_t_liquid, .ref q_t_portsTaken, .ref q_t_endAtPort, .int v_t_pipes, .ref q_t_pipeLitres, .ref q_t_thingAtEnd, .ref q_t_portAtEnd, .ref q_t_bendAtEnd, .ref q_t_inPipes])), (q_t_pipeLitres, .inl (cI, 60, .inl f_t_pipeLitres))]) (w1 := [(q_t_inPipes, .inr (2, [.ref q_t_inPipes_words])), (q_t_inPipes_words, .inl (cL, 750, .inr (.inl f_t_inPipes_words_c11)))]) hP hD [2, 3] [0, 1] rfl rfl (by decide) (by decide) hk1 hFc hP1 hD1
  have hP : va_P (dC, dI) classes [(q_t, .inr (1, [.int v_t_things, .ref q_t_kind, .ref q_t_position, .ref q_t_told, .ref q_t_capacity, .ref q_t_amount, .ref q_t_liquid, .ref q_t_portsTaken, .ref q_t_endAtPort, .int v_t_pipes, .ref q_t_pipeLitres, .ref q_t_thingAtEnd, .ref q_t_portAtEnd, .ref q_t_bendAtEnd, .ref q_t_inPipes])), (q_t_pipeLitres, .inl (cI, 60, .inl f_t_pipeLitres)), (q_t_inPipes, .inr (2, [.ref q_t_inPipes_words])), (q_t_inPipes_words, .inl (cL, 750, .inr (.inl f_t_inPipes_words_c11)))] H := hP.sub (ws' := [(q_t, .inr (1, [.int v_t_things, .ref q_t_kind, .ref q_t_position, .ref q_t_told, .ref q_t_capacity, .ref q_t_amount, .ref q_t_liquid, .ref q_t_portsTaken, .ref q_t_endAtPort, .int v_t_pipes, .ref q_t_pipeLitres, .ref q_t_thingAtEnd, .ref q_t_portAtEnd, .ref q_t_bendAtEnd, .ref q_t_inPipes])), (q_t_pipeLitres, .inl (cI, 60, .inl f_t_pipeLitres)), (q_t_inPipes, .inr (2, [.ref q_t_inPipes_words])), (q_t_inPipes_words, .inl (cL, 750, .inr (.inl f_t_inPipes_words_c11)))]) [0, 1, 2, 3] rfl
  have hD : va_D A [(q_t, .inr (1, [.int v_t_things, .ref q_t_kind, .ref q_t_position, .ref q_t_told, .ref q_t_capacity, .ref q_t_amount, .ref q_t_liquid, .ref q_t_portsTaken, .ref q_t_endAtPort, .int v_t_pipes, .ref q_t_pipeLitres, .ref q_t_thingAtEnd, .ref q_t_portAtEnd, .ref q_t_bendAtEnd, .ref q_t_inPipes])), (q_t_pipeLitres, .inl (cI, 60, .inl f_t_pipeLitres)), (q_t_inPipes, .inr (2, [.ref q_t_inPipes_words])), (q_t_inPipes_words, .inl (cL, 750, .inr (.inl f_t_inPipes_words_c11)))] := hD.sub (ws' := [(q_t, .inr (1, [.int v_t_things, .ref q_t_kind, .ref q_t_position, .ref q_t_told, .ref q_t_capacity, .ref q_t_amount, .ref q_t_liquid, .ref q_t_portsTaken, .ref q_t_endAtPort, .int v_t_pipes, .ref q_t_pipeLitres, .ref q_t_thingAtEnd, .ref q_t_portAtEnd, .ref q_t_bendAtEnd, .ref q_t_inPipes])), (q_t_pipeLitres, .inl (cI, 60, .inl f_t_pipeLitres)), (q_t_inPipes, .inr (2, [.ref q_t_inPipes_words])), (q_t_inPipes_words, .inl (cL, 750, .inr (.inl f_t_inPipes_words_c11)))]) [0, 1, 2, 3] (by decide) rfl
  exact W.vret hx hb hr (fun t ht hW => ⟨⟨f_t_inPipes_words_c11, rfl, hw, by rw [ht]; exact hP, va_K.moved hW.alike hK, hD⟩, hS.F ht⟩) hS.2.2 d_Pl_setLitreFrom_14
def wk_Pl_liquidInPipe_33_11 (P : Int32 → Prop) (x3_L11 : Int32) : Prop := P 15
def wk_Pl_liquidInPipe_42_11 (r5 : Int32) (P : Int32 → Prop) (x3_L11 : Int32) : Prop := P r5
def wl_Pl_liquidInPipe_11 (x1 : Int32) (f_t_pipeLitres : (Nat → Int32)) (f_t_inPipes_words : (Nat → Int64)) (r5 : Int32) (K_33 : Int32 → Prop) (K_42 : Int32 → Prop) : Nat → Int32 → Prop
  | 0, _ => False
  | k_11 + 1, x3_L11 => (vp_in x1 60 ∧ (((f_t_pipeLitres x1.toNatClampNeg) ≤ x3_L11 → K_42 x3_L11) ∧ (¬ (f_t_pipeLitres x1.toNatClampNeg) ≤ x3_L11 → wp_Pl_litreFrom f_t_pipeLitres f_t_inPipes_words (2 * x1) x3_L11 (fun r26 => ((r26 = r5 → wl_Pl_liquidInPipe_11 x1 f_t_pipeLitres f_t_inPipes_words r5 K_33 K_42 k_11 (x3_L11 + 1)) ∧ (¬ r26 = r5 → K_33 x3_L11))))))
def wp_Pl_liquidInPipe (f_t_pipeLitres : (Nat → Int32)) (f_t_inPipes_words : (Nat → Int64)) (x1 : Int32) (P : Int32 → Prop) : Prop := wp_Pl_litreFrom f_t_pipeLitres f_t_inPipes_words (2 * x1) 0 (fun r5 => (∃ n_11 : Nat, wl_Pl_liquidInPipe_11 x1 f_t_pipeLitres f_t_inPipes_words r5 (wk_Pl_liquidInPipe_33_11 P) (wk_Pl_liquidInPipe_42_11 r5 P) n_11 1))
def w_Pl_liquidInPipe : List Cond := .code y_Pl_liquidInPipe b_Pl_liquidInPipe 4 (some .int) :: tb
abbrev rm_Pl_liquidInPipe : Room := { frames := 3, cells := 0, slots := 0, locals := 68 }
abbrev Q_Pl_liquidInPipe (dC : Nat → ClassId) (dI : Nat → Nat → Nat) (cI cL cB : ClassId) (q_t : Nat) (q_t_kind : Nat) (q_t_position : Nat) (q_t_told : Nat) (q_t_capacity : Nat) (q_t_amount : Nat) (q_t_liquid : Nat) (q_t_portsTaken : Nat) (q_t_endAtPort : Nat) (q_t_pipeLitres : Nat) (q_t_thingAtEnd : Nat) (q_t_portAtEnd : Nat) (q_t_bendAtEnd : Nat) (q_t_inPipes : Nat) (q_t_inPipes_words : Nat) (v_t_things : Int32) (v_t_pipes : Int32) (f_t_pipeLitres : (Nat → Int32)) (f_t_inPipes_words : (Nat → Int64)) (x1 : Int32) (P : Int32 → Prop) (A : Nat → Prop) : Array Value → State → Outcome → State → Prop := va_Qi (fun (r : Int32) (u : Unit) => P r) (fun u t => va_P (dC, dI) classes [(q_t, .inr (1, [.int v_t_things, .ref q_t_kind, .ref q_t_position, .ref q_t_told, .ref q_t_capacity, .ref q_t_amount, .ref q_t_liquid, .ref q_t_portsTaken, .ref q_t_endAtPort, .int v_t_pipes, .ref q_t_pipeLitres, .ref q_t_thingAtEnd, .ref q_t_portAtEnd, .ref q_t_bendAtEnd, .ref q_t_inPipes])), (q_t_pipeLitres, .inl (cI, 60, .inl f_t_pipeLitres)), (q_t_inPipes, .inr (2, [.ref q_t_inPipes_words])), (q_t_inPipes_words, .inl (cL, 750, .inr (.inl f_t_inPipes_words)))] t.heap ∧ va_K (dC, dI) classes [(cI, .int), (cL, .long), (cB, .byte)] t ∧ va_D A [(q_t, .inr (1, [.int v_t_things, .ref q_t_kind, .ref q_t_position, .ref q_t_told, .ref q_t_capacity, .ref q_t_amount, .ref q_t_liquid, .ref q_t_portsTaken, .ref q_t_endAtPort, .int v_t_pipes, .ref q_t_pipeLitres, .ref q_t_thingAtEnd, .ref q_t_portAtEnd, .ref q_t_bendAtEnd, .ref q_t_inPipes])), (q_t_pipeLitres, .inl (cI, 60, .inl f_t_pipeLitres)), (q_t_inPipes, .inr (2, [.ref q_t_inPipes_words])), (q_t_inPipes_words, .inl (cL, 750, .inr (.inl f_t_inPipes_words)))]) A
set_option maxHeartbeats 4000000 in
set_option maxRecDepth 100000 in
theorem c_Pl_liquidInPipe (l : Launch) (dC : Nat → ClassId) (dI : Nat → Nat → Nat) (cI cL cB : ClassId) (q_t : Nat) (q_t_kind : Nat) (q_t_position : Nat) (q_t_told : Nat) (q_t_capacity : Nat) (q_t_amount : Nat) (q_t_liquid : Nat) (q_t_portsTaken : Nat) (q_t_endAtPort : Nat) (q_t_pipeLitres : Nat) (q_t_thingAtEnd : Nat) (q_t_portAtEnd : Nat) (q_t_bendAtEnd : Nat) (q_t_inPipes : Nat) (q_t_inPipes_words : Nat) (sz : Nat) (v_t_things : Int32) (v_t_pipes : Int32) (f_t_pipeLitres : (Nat → Int32)) (f_t_inPipes_words : (Nat → Int64)) (x1 : Int32) (P : Int32 → Prop) (hw : wp_Pl_liquidInPipe f_t_pipeLitres f_t_inPipes_words x1 P) : Met l y_Pl_liquidInPipe w_Pl_liquidInPipe rm_Pl_liquidInPipe (va_Pc [.ref q_t, .int x1] (fun U => U.heap.size = sz ∧ va_P (dC, dI) classes [(q_t, .inr (1, [.int v_t_things, .ref q_t_kind, .ref q_t_position, .ref q_t_told, .ref q_t_capacity, .ref q_t_amount, .ref q_t_liquid, .ref q_t_portsTaken, .ref q_t_endAtPort, .int v_t_pipes, .ref q_t_pipeLitres, .ref q_t_thingAtEnd, .ref q_t_portAtEnd, .ref q_t_bendAtEnd, .ref q_t_inPipes])), (q_t_pipeLitres, .inl (cI, 60, .inl f_t_pipeLitres)), (q_t_inPipes, .inr (2, [.ref q_t_inPipes_words])), (q_t_inPipes_words, .inl (cL, 750, .inr (.inl f_t_inPipes_words)))] U.heap ∧ va_K (dC, dI) classes [(cI, .int), (cL, .long), (cB, .byte)] U ∧ va_D (fun _ => True) [(q_t, .inr (1, [.int v_t_things, .ref q_t_kind, .ref q_t_position, .ref q_t_told, .ref q_t_capacity, .ref q_t_amount, .ref q_t_liquid, .ref q_t_portsTaken, .ref q_t_endAtPort, .int v_t_pipes, .ref q_t_pipeLitres, .ref q_t_thingAtEnd, .ref q_t_portAtEnd, .ref q_t_bendAtEnd, .ref q_t_inPipes])), (q_t_pipeLitres, .inl (cI, 60, .inl f_t_pipeLitres)), (q_t_inPipes, .inr (2, [.ref q_t_inPipes_words])), (q_t_inPipes_words, .inl (cL, 750, .inr (.inl f_t_inPipes_words)))])) (Q_Pl_liquidInPipe dC dI cI cL cB q_t q_t_kind q_t_position q_t_told q_t_capacity q_t_amount q_t_liquid q_t_portsTaken q_t_endAtPort q_t_pipeLitres q_t_thingAtEnd q_t_portAtEnd q_t_bendAtEnd q_t_inPipes q_t_inPipes_words v_t_things v_t_pipes f_t_pipeLitres f_t_inPipes_words x1 P (va_A [(q_t, .inr (1, [.int v_t_things, .ref q_t_kind, .ref q_t_position, .ref q_t_told, .ref q_t_capacity, .ref q_t_amount, .ref q_t_liquid, .ref q_t_portsTaken, .ref q_t_endAtPort, .int v_t_pipes, .ref q_t_pipeLitres, .ref q_t_thingAtEnd, .ref q_t_portAtEnd, .ref q_t_bendAtEnd, .ref q_t_inPipes])), (q_t_pipeLitres, .inl (cI, 60, .inl f_t_pipeLitres)), (q_t_inPipes, .inr (2, [.ref q_t_inPipes_words])), (q_t_inPipes_words, .inl (cL, 750, .inr (.inl f_t_inPipes_words)))] sz)) 0 0 (va_A [(q_t, .inr (1, [.int v_t_things, .ref q_t_kind, .ref q_t_position, .ref q_t_told, .ref q_t_capacity, .ref q_t_amount, .ref q_t_liquid, .ref q_t_portsTaken, .ref q_t_endAtPort, .int v_t_pipes, .ref q_t_pipeLitres, .ref q_t_thingAtEnd, .ref q_t_portAtEnd, .ref q_t_bendAtEnd, .ref q_t_inPipes])), (q_t_pipeLitres, .inl (cI, 60, .inl f_t_pipeLitres)), (q_t_inPipes, .inr (2, [.ref q_t_inPipes_words])), (q_t_inPipes_words, .inl (cL, 750, .inr (.inl f_t_inPipes_words)))] sz) := by
  refine Met.ofW (cc := b_Pl_liquidInPipe) (maxL := 4) (ret := (some .int)) (by decide) rfl ?_
  intro p e s m args below meth c s₁ B hml hv
  obtain ⟨ha, hsz, hP, hK, hD0⟩ := hv
  have hx := B.exec
  have hb := B.bytes
  have hr := B.returns
  have hts0 := atoms_spec (ws := w_Pl_liquidInPipe) B.pre
  have hts : ∀ w ∈ tb, w.before args s = true := fun w h => hts0 w (List.mem_cons_of_mem _ h)
  have hown : s.vm.findClass R_Pl = some m.cls := findClass_of_methodNamed B.named
  have hlocks := B.notSynchronized
  subst hsz
  have hD := hD0.self (sz := s.heap.size)
  generalize hAe : va_A [(q_t, .inr (1, [.int v_t_things, .ref q_t_kind, .ref q_t_position, .ref q_t_told, .ref q_t_capacity, .ref q_t_amount, .ref q_t_liquid, .ref q_t_portsTaken, .ref q_t_endAtPort, .int v_t_pipes, .ref q_t_pipeLitres, .ref q_t_thingAtEnd, .ref q_t_portAtEnd, .ref q_t_bendAtEnd, .ref q_t_inPipes])), (q_t_pipeLitres, .inl (cI, 60, .inl f_t_pipeLitres)), (q_t_inPipes, .inr (2, [.ref q_t_inPipes_words])), (q_t_inPipes_words, .inl (cL, 750, .inr (.inl f_t_inPipes_words)))] s.heap.size = A at hD ⊢
  have hA : ∀ q : Nat, s.heap.size ≤ q → A q := fun q h => by rw [← hAe]; exact Or.inr h
  have hS : va_S A s.heap s.heap [] := va_S.rf
  have hP : va_P (dC, dI) classes [(q_t, .inr (1, [.int v_t_things, .ref q_t_kind, .ref q_t_position, .ref q_t_told, .ref q_t_capacity, .ref q_t_amount, .ref q_t_liquid, .ref q_t_portsTaken, .ref q_t_endAtPort, .int v_t_pipes, .ref q_t_pipeLitres, .ref q_t_thingAtEnd, .ref q_t_portAtEnd, .ref q_t_bendAtEnd, .ref q_t_inPipes])), (q_t_pipeLitres, .inl (cI, 60, .inl f_t_pipeLitres)), (q_t_inPipes, .inr (2, [.ref q_t_inPipes_words])), (q_t_inPipes_words, .inl (cL, 750, .inr (.inl f_t_inPipes_words)))] s.heap := hP
  have hl := lv_entry [.ref q_t, .int x1] (n := 4) (Nat.le_of_ble_eq_true rfl)
  have he9 : entryFrame m args 4 = F0 m 0 ((lg_sl [.ref q_t, .int x1] ++ List.replicate (4 - (lg_sl [.ref q_t, .int x1]).length) Slot.unset).toArray) [] := by rw [ha]; exact lg_entry_eq _ _ _
  rw [he9]
  clear he9
  generalize (lg_sl [.ref q_t, .int x1] ++ List.replicate (4 - (lg_sl [.ref q_t, .int x1]).length) Slot.unset).toArray = ls at hl ⊢
  have hl : lv_has ls 4 [(0, .ref q_t), (1, .int x1)] := hl
  unfold wp_Pl_liquidInPipe at hw
  refine lv_aload_n hx hb d_Pl_liquidInPipe_0 rfl (lv_at hl 0 rfl) ?_
  refine lv_iconst (v := 2) hx hb d_Pl_liquidInPipe_1 (by decide) ?_
  refine lv_iload_n hx hb d_Pl_liquidInPipe_2 rfl (lv_at hl 1 rfl) ?_
  refine lv_imul hx hb d_Pl_liquidInPipe_3 ?_
  refine lv_iconst (v := 0) hx hb d_Pl_liquidInPipe_4 (by decide) ?_
  have hPc := hP.sub (ws' := [(q_t, .inr (1, [.int v_t_things, .ref q_t_kind, .ref q_t_position, .ref q_t_told, .ref q_t_capacity, .ref q_t_amount, .ref q_t_liquid, .ref q_t_portsTaken, .ref q_t_endAtPort, .int v_t_pipes, .ref q_t_pipeLitres, .ref q_t_thingAtEnd, .ref q_t_portAtEnd, .ref q_t_bendAtEnd, .ref q_t_inPipes])), (q_t_pipeLitres, .inl (cI, 60, .inl f_t_pipeLitres)), (q_t_inPipes, .inr (2, [.ref q_t_inPipes_words])), (q_t_inPipes_words, .inl (cL, 750, .inr (.inl f_t_inPipes_words)))]) [0, 1, 2, 3] rfl
  have hDc := hD.sub (ws' := [(q_t, .inr (1, [.int v_t_things, .ref q_t_kind, .ref q_t_position, .ref q_t_told, .ref q_t_capacity, .ref q_t_amount, .ref q_t_liquid, .ref q_t_portsTaken, .ref q_t_endAtPort, .int v_t_pipes, .ref q_t_pipeLitres, .ref q_t_thingAtEnd, .ref q_t_portAtEnd, .ref q_t_bendAtEnd, .ref q_t_inPipes])), (q_t_pipeLitres, .inl (cI, 60, .inl f_t_pipeLitres)), (q_t_inPipes, .inr (2, [.ref q_t_inPipes_words])), (q_t_inPipes_words, .inl (cL, 750, .inr (.inl f_t_inPipes_words)))]) [0, 1, 2, 3] (by decide) rfl
  have hFc := va_free (wc := [(q_t, .inr (1, [.int v_t_things, .ref q_t_kind, .ref q_t_position, .ref q_t_told, .ref q_t_capacity, .ref q_t_amount, .ref q_t_liquid, .ref q_t_portsTaken, .ref q_t_endAtPort, .int v_t_pipes, .ref q_t_pipeLitres, .ref q_t_thingAtEnd, .ref q_t_portAtEnd, .ref q_t_bendAtEnd, .ref q_t_inPipes])), (q_t_pipeLitres, .inl (cI, 60, .inl f_t_pipeLitres)), (q_t_inPipes, .inr (2, [.ref q_t_inPipes_words])), (q_t_inPipes_words, .inl (cL, 750, .inr (.inl f_t_inPipes_words)))]) hD hS hA [0, 1, 2, 3] rfl
  refine va_calli (va_runV (As := [.int (2 * x1), .int 0]) (rest := []) ⟨hx, hb, hml, hown, hts⟩ (c_Pl_litreFrom l dC dI cI cL cB q_t q_t_kind q_t_position q_t_told q_t_capacity q_t_amount q_t_liquid q_t_portsTaken q_t_endAtPort q_t_pipeLitres q_t_thingAtEnd q_t_portAtEnd q_t_bendAtEnd q_t_inPipes q_t_inPipes_words s.heap.size v_t_things v_t_pipes f_t_pipeLitres f_t_inPipes_words (2 * x1) 0 _ hw) (my_cwV 2 hts kw15_cf2fd3e kw15_3994139 kw15_9488304 kw15_cd65af8 kw15_300ee4b rfl rfl (by decide +kernel) ⟨Nat.le_of_ble_eq_true rfl, Nat.le_of_ble_eq_true rfl⟩) ⟨fun a U g mk q => by obtain ⟨q0, q1, qP, qK, qD⟩ := q; exact ⟨q0, q1, qP, va_K.moved (u := U) (U := U.calling g mk a) (Vm.Alike.refl U.vm) qK, qD⟩, va_recv hK hP (ci := 1) (q0 := 0) rfl rfl, fun U hU hW => ⟨rfl, by rw [hU], by rw [hU]; exact hPc, va_K.moved hW.alike hK, hDc.weaken (fun _ _ _ _ => trivial)⟩⟩ rfl rfl hl.1 rfl (lv_room (Nat.le_of_ble_eq_true rfl)) d_Pl_liquidInPipe_5 ⟨Nat.zero_le _, Nat.zero_le _⟩) hS (fun q _ h => hFc q h) hFc (fun r5 u t H locs ht hvm hw hB hz1 hk1 hS => ?_)
  obtain ⟨hP1, hK1, hD1⟩ := hB
  rw [ht] at hP1
  obtain ⟨hP, hD⟩ := va_join (wr := []) (w1 := [(q_t, .inr (1, [.int v_t_things, .ref q_t_kind, .ref q_t_position, .ref q_t_told, .ref q_t_capacity, .ref q_t_amount, .ref q_t_liquid, .ref q_t_portsTaken, .ref q_t_endAtPort, .int v_t_pipes, .ref q_t_pipeLitres, .ref q_t_thingAtEnd, .ref q_t_portAtEnd, .ref q_t_bendAtEnd, .ref q_t_inPipes])), (q_t_pipeLitres, .inl (cI, 60, .inl f_t_pipeLitres)), (q_t_inPipes, .inr (2, [.ref q_t_inPipes_words])), (q_t_inPipes_words, .inl (cL, 750, .inr (.inl f_t_inPipes_words)))]) hP hD [0, 1, 2, 3] [] rfl rfl (by decide) (by decide) hk1 hFc hP1 hD1
  have hP : va_P (dC, dI) classes [(q_t, .inr (1, [.int v_t_things, .ref q_t_kind, .ref q_t_position, .ref q_t_told, .ref q_t_capacity, .ref q_t_amount, .ref q_t_liquid, .ref q_t_portsTaken, .ref q_t_endAtPort, .int v_t_pipes, .ref q_t_pipeLitres, .ref q_t_thingAtEnd, .ref q_t_portAtEnd, .ref q_t_bendAtEnd, .ref q_t_inPipes])), (q_t_pipeLitres, .inl (cI, 60, .inl f_t_pipeLitres)), (q_t_inPipes, .inr (2, [.ref q_t_inPipes_words])), (q_t_inPipes_words, .inl (cL, 750, .inr (.inl f_t_inPipes_words)))] H := hP.sub (ws' := [(q_t, .inr (1, [.int v_t_things, .ref q_t_kind, .ref q_t_position, .ref q_t_told, .ref q_t_capacity, .ref q_t_amount, .ref q_t_liquid, .ref q_t_portsTaken, .ref q_t_endAtPort, .int v_t_pipes, .ref q_t_pipeLitres, .ref q_t_thingAtEnd, .ref q_t_portAtEnd, .ref q_t_bendAtEnd, .ref q_t_inPipes])), (q_t_pipeLitres, .inl (cI, 60, .inl f_t_pipeLitres)), (q_t_inPipes, .inr (2, [.ref q_t_inPipes_words])), (q_t_inPipes_words, .inl (cL, 750, .inr (.inl f_t_inPipes_words)))]) [0, 1, 2, 3] rfl
  have hD : va_D A [(q_t, .inr (1, [.int v_t_things, .ref q_t_kind, .ref q_t_position, .ref q_t_told, .ref q_t_capacity, .ref q_t_amount, .ref q_t_liquid, .ref q_t_portsTaken, .ref q_t_endAtPort, .int v_t_pipes, .ref q_t_pipeLitres, .ref q_t_thingAtEnd, .ref q_t_portAtEnd, .ref q_t_bendAtEnd, .ref q_t_inPipes])), (q_t_pipeLitres, .inl (cI, 60, .inl f_t_pipeLitres)), (q_t_inPipes, .inr (2, [.ref q_t_inPipes_words])), (q_t_inPipes_words, .inl (cL, 750, .inr (.inl f_t_inPipes_words)))] := hD.sub (ws' := [(q_t, .inr (1, [.int v_t_things, .ref q_t_kind, .ref q_t_position, .ref q_t_told, .ref q_t_capacity, .ref q_t_amount, .ref q_t_liquid, .ref q_t_portsTaken, .ref q_t_endAtPort, .int v_t_pipes, .ref q_t_pipeLitres, .ref q_t_thingAtEnd, .ref q_t_portAtEnd, .ref q_t_bendAtEnd, .ref q_t_inPipes])), (q_t_pipeLitres, .inl (cI, 60, .inl f_t_pipeLitres)), (q_t_inPipes, .inr (2, [.ref q_t_inPipes_words])), (q_t_inPipes_words, .inl (cL, 750, .inr (.inl f_t_inPipes_words)))]) [0, 1, 2, 3] (by decide) rfl
  refine lv_istore_n (lv' := [(2, .int r5), (0, .ref q_t), (1, .int x1)]) hx hb d_Pl_liquidInPipe_8 rfl hl (by decide) rfl (fun ls hl => ?_)
  refine lv_iconst (v := 1) hx hb d_Pl_liquidInPipe_9 (by decide) ?_
  refine lv_istore_n (lv' := [(3, .int 1), (2, .int r5), (0, .ref q_t), (1, .int x1)]) hx hb d_Pl_liquidInPipe_10 rfl hl (by decide) rfl (fun ls hl => ?_)
  obtain ⟨n_11, hw⟩ := hw
  have EX_33 : ∀ (x3_L11 : Int32) (H : Heap) (locs : List Loc) (ls : Array Slot), va_P (dC, dI) classes [(q_t, .inr (1, [.int v_t_things, .ref q_t_kind, .ref q_t_position, .ref q_t_told, .ref q_t_capacity, .ref q_t_amount, .ref q_t_liquid, .ref q_t_portsTaken, .ref q_t_endAtPort, .int v_t_pipes, .ref q_t_pipeLitres, .ref q_t_thingAtEnd, .ref q_t_portAtEnd, .ref q_t_bendAtEnd, .ref q_t_inPipes])), (q_t_pipeLitres, .inl (cI, 60, .inl f_t_pipeLitres)), (q_t_inPipes, .inr (2, [.ref q_t_inPipes_words])), (q_t_inPipes_words, .inl (cL, 750, .inr (.inl f_t_inPipes_words)))] H → va_D A [(q_t, .inr (1, [.int v_t_things, .ref q_t_kind, .ref q_t_position, .ref q_t_told, .ref q_t_capacity, .ref q_t_amount, .ref q_t_liquid, .ref q_t_portsTaken, .ref q_t_endAtPort, .int v_t_pipes, .ref q_t_pipeLitres, .ref q_t_thingAtEnd, .ref q_t_portAtEnd, .ref q_t_bendAtEnd, .ref q_t_inPipes])), (q_t_pipeLitres, .inl (cI, 60, .inl f_t_pipeLitres)), (q_t_inPipes, .inr (2, [.ref q_t_inPipes_words])), (q_t_inPipes_words, .inl (cL, 750, .inr (.inl f_t_inPipes_words)))] → va_S A s.heap H locs → lv_has ls 4 [(0, .ref q_t), (1, .int x1), (2, .int r5), (3, .int x3_L11)] → wk_Pl_liquidInPipe_33_11 P x3_L11 → W p l e (headSpec w_Pl_liquidInPipe rm_Pl_liquidInPipe).room s m args below meth c H locs 0 0 (MQ below (Q_Pl_liquidInPipe dC dI cI cL cB q_t q_t_kind q_t_position q_t_told q_t_capacity q_t_amount q_t_liquid q_t_portsTaken q_t_endAtPort q_t_pipeLitres q_t_thingAtEnd q_t_portAtEnd q_t_bendAtEnd q_t_inPipes q_t_inPipes_words v_t_things v_t_pipes f_t_pipeLitres f_t_inPipes_words x1 P A) args s 0 0 A) (F0 m 33 ls []) := by
    intro x3_L11 H locs ls hP hD hS hl hw
    unfold wk_Pl_liquidInPipe_33_11 at hw
    refine lv_bipush (v := 15) hx hb d_Pl_liquidInPipe_33 (by decide) ?_
    exact W.iret (v := 15) hx hb hr (fun t ht hW => ⟨⟨15, (), rfl, hw, by rw [ht]; exact hP, va_K.moved hW.alike hK, hD⟩, hS.F ht⟩) hS.2.2 d_Pl_liquidInPipe_35
  have EX_42 : ∀ (x3_L11 : Int32) (H : Heap) (locs : List Loc) (ls : Array Slot), va_P (dC, dI) classes [(q_t, .inr (1, [.int v_t_things, .ref q_t_kind, .ref q_t_position, .ref q_t_told, .ref q_t_capacity, .ref q_t_amount, .ref q_t_liquid, .ref q_t_portsTaken, .ref q_t_endAtPort, .int v_t_pipes, .ref q_t_pipeLitres, .ref q_t_thingAtEnd, .ref q_t_portAtEnd, .ref q_t_bendAtEnd, .ref q_t_inPipes])), (q_t_pipeLitres, .inl (cI, 60, .inl f_t_pipeLitres)), (q_t_inPipes, .inr (2, [.ref q_t_inPipes_words])), (q_t_inPipes_words, .inl (cL, 750, .inr (.inl f_t_inPipes_words)))] H → va_D A [(q_t, .inr (1, [.int v_t_things, .ref q_t_kind, .ref q_t_position, .ref q_t_told, .ref q_t_capacity, .ref q_t_amount, .ref q_t_liquid, .ref q_t_portsTaken, .ref q_t_endAtPort, .int v_t_pipes, .ref q_t_pipeLitres, .ref q_t_thingAtEnd, .ref q_t_portAtEnd, .ref q_t_bendAtEnd, .ref q_t_inPipes])), (q_t_pipeLitres, .inl (cI, 60, .inl f_t_pipeLitres)), (q_t_inPipes, .inr (2, [.ref q_t_inPipes_words])), (q_t_inPipes_words, .inl (cL, 750, .inr (.inl f_t_inPipes_words)))] → va_S A s.heap H locs → lv_has ls 4 [(0, .ref q_t), (1, .int x1), (2, .int r5), (3, .int x3_L11)] → wk_Pl_liquidInPipe_42_11 r5 P x3_L11 → W p l e (headSpec w_Pl_liquidInPipe rm_Pl_liquidInPipe).room s m args below meth c H locs 0 0 (MQ below (Q_Pl_liquidInPipe dC dI cI cL cB q_t q_t_kind q_t_position q_t_told q_t_capacity q_t_amount q_t_liquid q_t_portsTaken q_t_endAtPort q_t_pipeLitres q_t_thingAtEnd q_t_portAtEnd q_t_bendAtEnd q_t_inPipes q_t_inPipes_words v_t_things v_t_pipes f_t_pipeLitres f_t_inPipes_words x1 P A) args s 0 0 A) (F0 m 42 ls []) := by
    intro x3_L11 H locs ls hP hD hS hl hw
    unfold wk_Pl_liquidInPipe_42_11 at hw
    refine lv_iload_n hx hb d_Pl_liquidInPipe_42 rfl (lv_at hl 2 rfl) ?_
    exact W.iret (v := r5) hx hb hr (fun t ht hW => ⟨⟨r5, (), rfl, hw, by rw [ht]; exact hP, va_K.moved hW.alike hK, hD⟩, hS.F ht⟩) hS.2.2 d_Pl_liquidInPipe_43
  have LP_11 : ∀ (k_11 : Nat) (x3_L11 : Int32) (H : Heap) (locs : List Loc) (ls : Array Slot), va_P (dC, dI) classes [(q_t, .inr (1, [.int v_t_things, .ref q_t_kind, .ref q_t_position, .ref q_t_told, .ref q_t_capacity, .ref q_t_amount, .ref q_t_liquid, .ref q_t_portsTaken, .ref q_t_endAtPort, .int v_t_pipes, .ref q_t_pipeLitres, .ref q_t_thingAtEnd, .ref q_t_portAtEnd, .ref q_t_bendAtEnd, .ref q_t_inPipes])), (q_t_pipeLitres, .inl (cI, 60, .inl f_t_pipeLitres)), (q_t_inPipes, .inr (2, [.ref q_t_inPipes_words])), (q_t_inPipes_words, .inl (cL, 750, .inr (.inl f_t_inPipes_words)))] H → va_D A [(q_t, .inr (1, [.int v_t_things, .ref q_t_kind, .ref q_t_position, .ref q_t_told, .ref q_t_capacity, .ref q_t_amount, .ref q_t_liquid, .ref q_t_portsTaken, .ref q_t_endAtPort, .int v_t_pipes, .ref q_t_pipeLitres, .ref q_t_thingAtEnd, .ref q_t_portAtEnd, .ref q_t_bendAtEnd, .ref q_t_inPipes])), (q_t_pipeLitres, .inl (cI, 60, .inl f_t_pipeLitres)), (q_t_inPipes, .inr (2, [.ref q_t_inPipes_words])), (q_t_inPipes_words, .inl (cL, 750, .inr (.inl f_t_inPipes_words)))] → va_S A s.heap H locs → lv_has ls 4 [(0, .ref q_t), (1, .int x1), (2, .int r5), (3, .int x3_L11)] → wl_Pl_liquidInPipe_11 x1 f_t_pipeLitres f_t_inPipes_words r5 (wk_Pl_liquidInPipe_33_11 P) (wk_Pl_liquidInPipe_42_11 r5 P) k_11 x3_L11 → W p l e (headSpec w_Pl_liquidInPipe rm_Pl_liquidInPipe).room s m args below meth c H locs 0 0 (MQ below (Q_Pl_liquidInPipe dC dI cI cL cB q_t q_t_kind q_t_position q_t_told q_t_capacity q_t_amount q_t_liquid q_t_portsTaken q_t_endAtPort q_t_pipeLitres q_t_thingAtEnd q_t_portAtEnd q_t_bendAtEnd q_t_inPipes q_t_inPipes_words v_t_things v_t_pipes f_t_pipeLitres f_t_inPipes_words x1 P A) args s 0 0 A) (F0 m 11 ls []) := by
    intro k_11
    induction k_11 with
    | zero => intro x3_L11 H locs ls hP hD hS hl hw; unfold wl_Pl_liquidInPipe_11 at hw; exact hw.elim
    | succ k_11 ih_11 =>
      intro x3_L11 H locs ls hP hD hS hl hw
      unfold wl_Pl_liquidInPipe_11 at hw
      refine lv_iload_n hx hb d_Pl_liquidInPipe_11 rfl (lv_at hl 3 rfl) ?_
      refine lv_aload_n hx hb d_Pl_liquidInPipe_12 rfl (lv_at hl 0 rfl) ?_
      refine va_get (D := (dC, dI)) (ci := 1) (v := .ref q_t_pipeLitres) (C := R_Pl) (T := F_Pl) (N := 15) hx hb hts i_Pl hown hK hP 0 rfl rfl 10 (by decide) (hts (Cond.fieldLink R_Pl 36 "PlantGraph$Plant" "pipeLitres" "[I") kw15_9698590) (fun _ h9 => h9) rfl d_Pl_liquidInPipe_13 ?_
      refine lv_iload_n hx hb d_Pl_liquidInPipe_16 rfl (lv_at hl 1 rfl) ?_
      refine va_iald hx hb hK hP 1 0 rfl rfl hw.1 d_Pl_liquidInPipe_17 ?_
      replace hw := hw.2
      refine lv_icmp_ge (tgt := 42) hx hb d_Pl_liquidInPipe_18 (by decide) (fun c18 => ?_) (fun c18 => ?_)
      · replace hw := hw.1 c18
        exact EX_42 x3_L11 H _ _ hP hD hS (lv_sub hl [0, 1, 2, 3] rfl) hw
      · replace hw := hw.2 c18
        refine lv_aload_n hx hb d_Pl_liquidInPipe_21 rfl (lv_at hl 0 rfl) ?_
        refine lv_iconst (v := 2) hx hb d_Pl_liquidInPipe_22 (by decide) ?_
        refine lv_iload_n hx hb d_Pl_liquidInPipe_23 rfl (lv_at hl 1 rfl) ?_
        refine lv_imul hx hb d_Pl_liquidInPipe_24 ?_
        refine lv_iload_n hx hb d_Pl_liquidInPipe_25 rfl (lv_at hl 3 rfl) ?_
        have hPc := hP.sub (ws' := [(q_t, .inr (1, [.int v_t_things, .ref q_t_kind, .ref q_t_position, .ref q_t_told, .ref q_t_capacity, .ref q_t_amount, .ref q_t_liquid, .ref q_t_portsTaken, .ref q_t_endAtPort, .int v_t_pipes, .ref q_t_pipeLitres, .ref q_t_thingAtEnd, .ref q_t_portAtEnd, .ref q_t_bendAtEnd, .ref q_t_inPipes])), (q_t_pipeLitres, .inl (cI, 60, .inl f_t_pipeLitres)), (q_t_inPipes, .inr (2, [.ref q_t_inPipes_words])), (q_t_inPipes_words, .inl (cL, 750, .inr (.inl f_t_inPipes_words)))]) [0, 1, 2, 3] rfl
        have hDc := hD.sub (ws' := [(q_t, .inr (1, [.int v_t_things, .ref q_t_kind, .ref q_t_position, .ref q_t_told, .ref q_t_capacity, .ref q_t_amount, .ref q_t_liquid, .ref q_t_portsTaken, .ref q_t_endAtPort, .int v_t_pipes, .ref q_t_pipeLitres, .ref q_t_thingAtEnd, .ref q_t_portAtEnd, .ref q_t_bendAtEnd, .ref q_t_inPipes])), (q_t_pipeLitres, .inl (cI, 60, .inl f_t_pipeLitres)), (q_t_inPipes, .inr (2, [.ref q_t_inPipes_words])), (q_t_inPipes_words, .inl (cL, 750, .inr (.inl f_t_inPipes_words)))]) [0, 1, 2, 3] (by decide) rfl
        have hFc := va_free (wc := [(q_t, .inr (1, [.int v_t_things, .ref q_t_kind, .ref q_t_position, .ref q_t_told, .ref q_t_capacity, .ref q_t_amount, .ref q_t_liquid, .ref q_t_portsTaken, .ref q_t_endAtPort, .int v_t_pipes, .ref q_t_pipeLitres, .ref q_t_thingAtEnd, .ref q_t_portAtEnd, .ref q_t_bendAtEnd, .ref q_t_inPipes])), (q_t_pipeLitres, .inl (cI, 60, .inl f_t_pipeLitres)), (q_t_inPipes, .inr (2, [.ref q_t_inPipes_words])), (q_t_inPipes_words, .inl (cL, 750, .inr (.inl f_t_inPipes_words)))]) hD hS hA [0, 1, 2, 3] rfl
        refine va_calli (va_runV (As := [.int (2 * x1), .int x3_L11]) (rest := []) ⟨hx, hb, hml, hown, hts⟩ (c_Pl_litreFrom l dC dI cI cL cB q_t q_t_kind q_t_position q_t_told q_t_capacity q_t_amount q_t_liquid q_t_portsTaken q_t_endAtPort q_t_pipeLitres q_t_thingAtEnd q_t_portAtEnd q_t_bendAtEnd q_t_inPipes q_t_inPipes_words H.size v_t_things v_t_pipes f_t_pipeLitres f_t_inPipes_words (2 * x1) x3_L11 _ hw) (my_cwV 2 hts kw15_cf2fd3e kw15_3994139 kw15_9488304 kw15_cd65af8 kw15_300ee4b rfl rfl (by decide +kernel) ⟨Nat.le_of_ble_eq_true rfl, Nat.le_of_ble_eq_true rfl⟩) ⟨fun a U g mk q => by obtain ⟨q0, q1, qP, qK, qD⟩ := q; exact ⟨q0, q1, qP, va_K.moved (u := U) (U := U.calling g mk a) (Vm.Alike.refl U.vm) qK, qD⟩, va_recv hK hP (ci := 1) (q0 := 0) rfl rfl, fun U hU hW => ⟨rfl, by rw [hU], by rw [hU]; exact hPc, va_K.moved hW.alike hK, hDc.weaken (fun _ _ _ _ => trivial)⟩⟩ rfl rfl hl.1 rfl (lv_room (Nat.le_of_ble_eq_true rfl)) d_Pl_liquidInPipe_26 ⟨Nat.zero_le _, Nat.zero_le _⟩) hS (fun q _ h => hFc q h) hFc (fun r26 u t H locs ht hvm hw hB hz1 hk1 hS => ?_)
        obtain ⟨hP1, hK1, hD1⟩ := hB
        rw [ht] at hP1
        obtain ⟨hP, hD⟩ := va_join (wr := []) (w1 := [(q_t, .inr (1, [.int v_t_things, .ref q_t_kind, .ref q_t_position, .ref q_t_told, .ref q_t_capacity, .ref q_t_amount, .ref q_t_liquid, .ref q_t_portsTaken, .ref q_t_endAtPort, .int v_t_pipes, .ref q_t_pipeLitres, .ref q_t_thingAtEnd, .ref q_t_portAtEnd, .ref q_t_bendAtEnd, .ref q_t_inPipes])), (q_t_pipeLitres, .inl (cI, 60, .inl f_t_pipeLitres)), (q_t_inPipes, .inr (2, [.ref q_t_inPipes_words])), (q_t_inPipes_words, .inl (cL, 750, .inr (.inl f_t_inPipes_words)))]) hP hD [0, 1, 2, 3] [] rfl rfl (by decide) (by decide) hk1 hFc hP1 hD1
        have hP : va_P (dC, dI) classes [(q_t, .inr (1, [.int v_t_things, .ref q_t_kind, .ref q_t_position, .ref q_t_told, .ref q_t_capacity, .ref q_t_amount, .ref q_t_liquid, .ref q_t_portsTaken, .ref q_t_endAtPort, .int v_t_pipes, .ref q_t_pipeLitres, .ref q_t_thingAtEnd, .ref q_t_portAtEnd, .ref q_t_bendAtEnd, .ref q_t_inPipes])), (q_t_pipeLitres, .inl (cI, 60, .inl f_t_pipeLitres)), (q_t_inPipes, .inr (2, [.ref q_t_inPipes_words])), (q_t_inPipes_words, .inl (cL, 750, .inr (.inl f_t_inPipes_words)))] H := hP.sub (ws' := [(q_t, .inr (1, [.int v_t_things, .ref q_t_kind, .ref q_t_position, .ref q_t_told, .ref q_t_capacity, .ref q_t_amount, .ref q_t_liquid, .ref q_t_portsTaken, .ref q_t_endAtPort, .int v_t_pipes, .ref q_t_pipeLitres, .ref q_t_thingAtEnd, .ref q_t_portAtEnd, .ref q_t_bendAtEnd, .ref q_t_inPipes])), (q_t_pipeLitres, .inl (cI, 60, .inl f_t_pipeLitres)), (q_t_inPipes, .inr (2, [.ref q_t_inPipes_words])), (q_t_inPipes_words, .inl (cL, 750, .inr (.inl f_t_inPipes_words)))]) [0, 1, 2, 3] rfl
        have hD : va_D A [(q_t, .inr (1, [.int v_t_things, .ref q_t_kind, .ref q_t_position, .ref q_t_told, .ref q_t_capacity, .ref q_t_amount, .ref q_t_liquid, .ref q_t_portsTaken, .ref q_t_endAtPort, .int v_t_pipes, .ref q_t_pipeLitres, .ref q_t_thingAtEnd, .ref q_t_portAtEnd, .ref q_t_bendAtEnd, .ref q_t_inPipes])), (q_t_pipeLitres, .inl (cI, 60, .inl f_t_pipeLitres)), (q_t_inPipes, .inr (2, [.ref q_t_inPipes_words])), (q_t_inPipes_words, .inl (cL, 750, .inr (.inl f_t_inPipes_words)))] := hD.sub (ws' := [(q_t, .inr (1, [.int v_t_things, .ref q_t_kind, .ref q_t_position, .ref q_t_told, .ref q_t_capacity, .ref q_t_amount, .ref q_t_liquid, .ref q_t_portsTaken, .ref q_t_endAtPort, .int v_t_pipes, .ref q_t_pipeLitres, .ref q_t_thingAtEnd, .ref q_t_portAtEnd, .ref q_t_bendAtEnd, .ref q_t_inPipes])), (q_t_pipeLitres, .inl (cI, 60, .inl f_t_pipeLitres)), (q_t_inPipes, .inr (2, [.ref q_t_inPipes_words])), (q_t_inPipes_words, .inl (cL, 750, .inr (.inl f_t_inPipes_words)))]) [0, 1, 2, 3] (by decide) rfl
        refine lv_iload_n hx hb d_Pl_liquidInPipe_29 rfl (lv_at hl 2 rfl) ?_
        refine lv_icmp_eq (tgt := 36) hx hb d_Pl_liquidInPipe_30 (by decide) (fun c30 => ?_) (fun c30 => ?_)
        · replace hw := hw.1 c30
          refine lv_iinc (v := (x3_L11 + 1)) (lv' := [(3, .int (x3_L11 + 1)), (0, .ref q_t), (1, .int x1), (2, .int r5)]) hx hb d_Pl_liquidInPipe_36 hl (k := 3) rfl rfl (by decide) rfl (fun ls hl => ?_)
          refine lv_goto (tgt := 11) hx hb d_Pl_liquidInPipe_39 (by decide) ?_
          exact ih_11 (x3_L11 + 1) H _ _ hP hD hS (lv_sub hl [1, 2, 3, 0] rfl) hw
        · replace hw := hw.2 c30
          exact EX_33 x3_L11 H _ _ hP hD hS (lv_sub hl [0, 1, 2, 3] rfl) hw
  exact LP_11 n_11 1 H _ _ hP hD hS (lv_sub hl [2, 3, 1, 0] rfl) hw
def wp_Pl_clear (v_t_things : Int32) (v_t_pipes : Int32) (f_t_inPipes_words : (Nat → Int64)) (P : Int32 → Int32 → (Nat → Int64) → Prop) : Prop := wp_Li_clear f_t_inPipes_words (fun f_t_inPipes_words_c14 => P 0 0 f_t_inPipes_words_c14)
def w_Pl_clear : List Cond := .code y_Pl_clear b_Pl_clear 1 none :: tb
abbrev rm_Pl_clear : Room := { frames := 2, cells := 0, slots := 0, locals := 44 }
abbrev Q_Pl_clear (dC : Nat → ClassId) (dI : Nat → Nat → Nat) (cI cL cB : ClassId) (q_t : Nat) (q_t_kind : Nat) (q_t_position : Nat) (q_t_told : Nat) (q_t_capacity : Nat) (q_t_amount : Nat) (q_t_liquid : Nat) (q_t_portsTaken : Nat) (q_t_endAtPort : Nat) (q_t_pipeLitres : Nat) (q_t_thingAtEnd : Nat) (q_t_portAtEnd : Nat) (q_t_bendAtEnd : Nat) (q_t_inPipes : Nat) (q_t_inPipes_words : Nat) (v_t_things : Int32) (v_t_pipes : Int32) (f_t_inPipes_words : (Nat → Int64)) (P : Int32 → Int32 → (Nat → Int64) → Prop) (A : Nat → Prop) : Array Value → State → Outcome → State → Prop := va_Qv (fun (u : Int32 × Int32 × (Nat → Int64)) => P u.1 u.2.1 u.2.2) (fun u t => va_P (dC, dI) classes [(q_t, .inr (1, [.int u.1, .ref q_t_kind, .ref q_t_position, .ref q_t_told, .ref q_t_capacity, .ref q_t_amount, .ref q_t_liquid, .ref q_t_portsTaken, .ref q_t_endAtPort, .int u.2.1, .ref q_t_pipeLitres, .ref q_t_thingAtEnd, .ref q_t_portAtEnd, .ref q_t_bendAtEnd, .ref q_t_inPipes])), (q_t_inPipes, .inr (2, [.ref q_t_inPipes_words])), (q_t_inPipes_words, .inl (cL, 750, .inr (.inl u.2.2)))] t.heap ∧ va_K (dC, dI) classes [(cI, .int), (cL, .long), (cB, .byte)] t ∧ va_D A [(q_t, .inr (1, [.int u.1, .ref q_t_kind, .ref q_t_position, .ref q_t_told, .ref q_t_capacity, .ref q_t_amount, .ref q_t_liquid, .ref q_t_portsTaken, .ref q_t_endAtPort, .int u.2.1, .ref q_t_pipeLitres, .ref q_t_thingAtEnd, .ref q_t_portAtEnd, .ref q_t_bendAtEnd, .ref q_t_inPipes])), (q_t_inPipes, .inr (2, [.ref q_t_inPipes_words])), (q_t_inPipes_words, .inl (cL, 750, .inr (.inl u.2.2)))]) A
set_option maxHeartbeats 4000000 in
set_option maxRecDepth 100000 in
theorem c_Pl_clear (l : Launch) (dC : Nat → ClassId) (dI : Nat → Nat → Nat) (cI cL cB : ClassId) (q_t : Nat) (q_t_kind : Nat) (q_t_position : Nat) (q_t_told : Nat) (q_t_capacity : Nat) (q_t_amount : Nat) (q_t_liquid : Nat) (q_t_portsTaken : Nat) (q_t_endAtPort : Nat) (q_t_pipeLitres : Nat) (q_t_thingAtEnd : Nat) (q_t_portAtEnd : Nat) (q_t_bendAtEnd : Nat) (q_t_inPipes : Nat) (q_t_inPipes_words : Nat) (sz : Nat) (v_t_things : Int32) (v_t_pipes : Int32) (f_t_inPipes_words : (Nat → Int64)) (P : Int32 → Int32 → (Nat → Int64) → Prop) (hw : wp_Pl_clear v_t_things v_t_pipes f_t_inPipes_words P) : Met l y_Pl_clear w_Pl_clear rm_Pl_clear (va_Pc [.ref q_t] (fun U => U.heap.size = sz ∧ va_P (dC, dI) classes [(q_t, .inr (1, [.int v_t_things, .ref q_t_kind, .ref q_t_position, .ref q_t_told, .ref q_t_capacity, .ref q_t_amount, .ref q_t_liquid, .ref q_t_portsTaken, .ref q_t_endAtPort, .int v_t_pipes, .ref q_t_pipeLitres, .ref q_t_thingAtEnd, .ref q_t_portAtEnd, .ref q_t_bendAtEnd, .ref q_t_inPipes])), (q_t_inPipes, .inr (2, [.ref q_t_inPipes_words])), (q_t_inPipes_words, .inl (cL, 750, .inr (.inl f_t_inPipes_words)))] U.heap ∧ va_K (dC, dI) classes [(cI, .int), (cL, .long), (cB, .byte)] U ∧ va_D (fun _ => True) [(q_t, .inr (1, [.int v_t_things, .ref q_t_kind, .ref q_t_position, .ref q_t_told, .ref q_t_capacity, .ref q_t_amount, .ref q_t_liquid, .ref q_t_portsTaken, .ref q_t_endAtPort, .int v_t_pipes, .ref q_t_pipeLitres, .ref q_t_thingAtEnd, .ref q_t_portAtEnd, .ref q_t_bendAtEnd, .ref q_t_inPipes])), (q_t_inPipes, .inr (2, [.ref q_t_inPipes_words])), (q_t_inPipes_words, .inl (cL, 750, .inr (.inl f_t_inPipes_words)))])) (Q_Pl_clear dC dI cI cL cB q_t q_t_kind q_t_position q_t_told q_t_capacity q_t_amount q_t_liquid q_t_portsTaken q_t_endAtPort q_t_pipeLitres q_t_thingAtEnd q_t_portAtEnd q_t_bendAtEnd q_t_inPipes q_t_inPipes_words v_t_things v_t_pipes f_t_inPipes_words P (va_A [(q_t, .inr (1, [.int v_t_things, .ref q_t_kind, .ref q_t_position, .ref q_t_told, .ref q_t_capacity, .ref q_t_amount, .ref q_t_liquid, .ref q_t_portsTaken, .ref q_t_endAtPort, .int v_t_pipes, .ref q_t_pipeLitres, .ref q_t_thingAtEnd, .ref q_t_portAtEnd, .ref q_t_bendAtEnd, .ref q_t_inPipes])), (q_t_inPipes, .inr (2, [.ref q_t_inPipes_words])), (q_t_inPipes_words, .inl (cL, 750, .inr (.inl f_t_inPipes_words)))] sz)) 0 0 (va_A [(q_t, .inr (1, [.int v_t_things, .ref q_t_kind, .ref q_t_position, .ref q_t_told, .ref q_t_capacity, .ref q_t_amount, .ref q_t_liquid, .ref q_t_portsTaken, .ref q_t_endAtPort, .int v_t_pipes, .ref q_t_pipeLitres, .ref q_t_thingAtEnd, .ref q_t_portAtEnd, .ref q_t_bendAtEnd, .ref q_t_inPipes])), (q_t_inPipes, .inr (2, [.ref q_t_inPipes_words])), (q_t_inPipes_words, .inl (cL, 750, .inr (.inl f_t_inPipes_words)))] sz) := by
  refine Met.ofW (cc := b_Pl_clear) (maxL := 1) (ret := none) (by decide) rfl ?_
  intro p e s m args below meth c s₁ B hml hv
  obtain ⟨ha, hsz, hP, hK, hD0⟩ := hv
  have hx := B.exec
  have hb := B.bytes
  have hr := B.returns
  have hts0 := atoms_spec (ws := w_Pl_clear) B.pre
  have hts : ∀ w ∈ tb, w.before args s = true := fun w h => hts0 w (List.mem_cons_of_mem _ h)
  have hown : s.vm.findClass R_Pl = some m.cls := findClass_of_methodNamed B.named
  have hlocks := B.notSynchronized
  subst hsz
  have hD := hD0.self (sz := s.heap.size)
  generalize hAe : va_A [(q_t, .inr (1, [.int v_t_things, .ref q_t_kind, .ref q_t_position, .ref q_t_told, .ref q_t_capacity, .ref q_t_amount, .ref q_t_liquid, .ref q_t_portsTaken, .ref q_t_endAtPort, .int v_t_pipes, .ref q_t_pipeLitres, .ref q_t_thingAtEnd, .ref q_t_portAtEnd, .ref q_t_bendAtEnd, .ref q_t_inPipes])), (q_t_inPipes, .inr (2, [.ref q_t_inPipes_words])), (q_t_inPipes_words, .inl (cL, 750, .inr (.inl f_t_inPipes_words)))] s.heap.size = A at hD ⊢
  have hA : ∀ q : Nat, s.heap.size ≤ q → A q := fun q h => by rw [← hAe]; exact Or.inr h
  have hS : va_S A s.heap s.heap [] := va_S.rf
  have hP : va_P (dC, dI) classes [(q_t, .inr (1, [.int v_t_things, .ref q_t_kind, .ref q_t_position, .ref q_t_told, .ref q_t_capacity, .ref q_t_amount, .ref q_t_liquid, .ref q_t_portsTaken, .ref q_t_endAtPort, .int v_t_pipes, .ref q_t_pipeLitres, .ref q_t_thingAtEnd, .ref q_t_portAtEnd, .ref q_t_bendAtEnd, .ref q_t_inPipes])), (q_t_inPipes, .inr (2, [.ref q_t_inPipes_words])), (q_t_inPipes_words, .inl (cL, 750, .inr (.inl f_t_inPipes_words)))] s.heap := hP
  have hl := lv_entry [.ref q_t] (n := 1) (Nat.le_of_ble_eq_true rfl)
  have he9 : entryFrame m args 1 = F0 m 0 ((lg_sl [.ref q_t] ++ List.replicate (1 - (lg_sl [.ref q_t]).length) Slot.unset).toArray) [] := by rw [ha]; exact lg_entry_eq _ _ _
  rw [he9]
  clear he9
  generalize (lg_sl [.ref q_t] ++ List.replicate (1 - (lg_sl [.ref q_t]).length) Slot.unset).toArray = ls at hl ⊢
  have hl : lv_has ls 1 [(0, .ref q_t)] := hl
  unfold wp_Pl_clear at hw
  refine lv_aload_n hx hb d_Pl_clear_0 rfl (lv_at hl 0 rfl) ?_
  refine lv_iconst (v := 0) hx hb d_Pl_clear_1 (by decide) ?_
  refine va_put (D := (dC, dI)) (ci := 1) (v := .int 0) (ty := .int) (C := R_Pl) (T := F_Pl) (N := 15) hx hb hts i_Pl t_Pl t_Pl_ok n_Pl hown hK hP hD hS 0 rfl rfl 0 (by decide) (hts (Cond.fieldLink R_Pl 55 "PlantGraph$Plant" "things" "I") kw15_8296991) (fun _ h9 => h9) rfl (by decide +kernel) rfl rfl (Nat.le_of_ble_eq_true rfl) d_Pl_clear_2 (fun H locs hP hD hS => ?_)
  have hP : va_P (dC, dI) classes [(q_t, .inr (1, [.int 0, .ref q_t_kind, .ref q_t_position, .ref q_t_told, .ref q_t_capacity, .ref q_t_amount, .ref q_t_liquid, .ref q_t_portsTaken, .ref q_t_endAtPort, .int v_t_pipes, .ref q_t_pipeLitres, .ref q_t_thingAtEnd, .ref q_t_portAtEnd, .ref q_t_bendAtEnd, .ref q_t_inPipes])), (q_t_inPipes, .inr (2, [.ref q_t_inPipes_words])), (q_t_inPipes_words, .inl (cL, 750, .inr (.inl f_t_inPipes_words)))] H := hP
  have hD : va_D A [(q_t, .inr (1, [.int 0, .ref q_t_kind, .ref q_t_position, .ref q_t_told, .ref q_t_capacity, .ref q_t_amount, .ref q_t_liquid, .ref q_t_portsTaken, .ref q_t_endAtPort, .int v_t_pipes, .ref q_t_pipeLitres, .ref q_t_thingAtEnd, .ref q_t_portAtEnd, .ref q_t_bendAtEnd, .ref q_t_inPipes])), (q_t_inPipes, .inr (2, [.ref q_t_inPipes_words])), (q_t_inPipes_words, .inl (cL, 750, .inr (.inl f_t_inPipes_words)))] := hD
  refine lv_aload_n hx hb d_Pl_clear_5 rfl (lv_at hl 0 rfl) ?_
  refine lv_iconst (v := 0) hx hb d_Pl_clear_6 (by decide) ?_
  refine va_put (D := (dC, dI)) (ci := 1) (v := .int 0) (ty := .int) (C := R_Pl) (T := F_Pl) (N := 15) hx hb hts i_Pl t_Pl t_Pl_ok n_Pl hown hK hP hD hS 0 rfl rfl 9 (by decide) (hts (Cond.fieldLink R_Pl 59 "PlantGraph$Plant" "pipes" "I") kw15_92ca4a3) (fun _ h9 => h9) rfl (by decide +kernel) rfl rfl (Nat.le_of_ble_eq_true rfl) d_Pl_clear_7 (fun H locs hP hD hS => ?_)
  have hP : va_P (dC, dI) classes [(q_t, .inr (1, [.int 0, .ref q_t_kind, .ref q_t_position, .ref q_t_told, .ref q_t_capacity, .ref q_t_amount, .ref q_t_liquid, .ref q_t_portsTaken, .ref q_t_endAtPort, .int 0, .ref q_t_pipeLitres, .ref q_t_thingAtEnd, .ref q_t_portAtEnd, .ref q_t_bendAtEnd, .ref q_t_inPipes])), (q_t_inPipes, .inr (2, [.ref q_t_inPipes_words])), (q_t_inPipes_words, .inl (cL, 750, .inr (.inl f_t_inPipes_words)))] H := hP
  have hD : va_D A [(q_t, .inr (1, [.int 0, .ref q_t_kind, .ref q_t_position, .ref q_t_told, .ref q_t_capacity, .ref q_t_amount, .ref q_t_liquid, .ref q_t_portsTaken, .ref q_t_endAtPort, .int 0, .ref q_t_pipeLitres, .ref q_t_thingAtEnd, .ref q_t_portAtEnd, .ref q_t_bendAtEnd, .ref q_t_inPipes])), (q_t_inPipes, .inr (2, [.ref q_t_inPipes_words])), (q_t_inPipes_words, .inl (cL, 750, .inr (.inl f_t_inPipes_words)))] := hD
  refine lv_aload_n hx hb d_Pl_clear_10 rfl (lv_at hl 0 rfl) ?_
  refine va_get (D := (dC, dI)) (ci := 1) (v := .ref q_t_inPipes) (C := R_Pl) (T := F_Pl) (N := 15) hx hb hts i_Pl hown hK hP 0 rfl rfl 14 (by decide) (hts (Cond.fieldLink R_Pl 51 "PlantGraph$Plant" "inPipes" "LPlantGraph$Litres;") kw15_11754c3) (fun _ h9 => h9) rfl d_Pl_clear_11 ?_
  have hPc := hP.sub (ws' := [(q_t_inPipes, .inr (2, [.ref q_t_inPipes_words])), (q_t_inPipes_words, .inl (cL, 750, .inr (.inl f_t_inPipes_words)))]) [1, 2] rfl
  have hDc := hD.sub (ws' := [(q_t_inPipes, .inr (2, [.ref q_t_inPipes_words])), (q_t_inPipes_words, .inl (cL, 750, .inr (.inl f_t_inPipes_words)))]) [1, 2] (by decide) rfl
  have hFc := va_free (wc := [(q_t_inPipes, .inr (2, [.ref q_t_inPipes_words])), (q_t_inPipes_words, .inl (cL, 750, .inr (.inl f_t_inPipes_words)))]) hD hS hA [1, 2] rfl
  refine va_callv (va_runV (As := []) (rest := []) ⟨hx, hb, hml, hown, hts⟩ (c_Li_clear l dC dI cI cL cB q_t_inPipes q_t_inPipes_words H.size f_t_inPipes_words  _ hw) (my_cwV 0 hts kw15_6c22746 kw15_59c865a kw15_871cdaf kw15_59924f3 kw15_fece976 rfl rfl (by decide +kernel) ⟨Nat.le_of_ble_eq_true rfl, Nat.le_of_ble_eq_true rfl⟩) ⟨fun a U g mk q => by obtain ⟨q0, q1, qP, qK, qD⟩ := q; exact ⟨q0, q1, qP, va_K.moved (u := U) (U := U.calling g mk a) (Vm.Alike.refl U.vm) qK, qD⟩, va_recv hK hP (ci := 2) (q0 := 1) rfl rfl, fun U hU hW => ⟨rfl, by rw [hU], by rw [hU]; exact hPc, va_K.moved hW.alike hK, hDc.weaken (fun _ _ _ _ => trivial)⟩⟩ rfl rfl hl.1 rfl (lv_room (Nat.le_of_ble_eq_true rfl)) d_Pl_clear_14 ⟨Nat.zero_le _, Nat.zero_le _⟩) hS (fun q _ h => hFc q h) hFc (fun f_t_inPipes_words_c14 t H locs ht hvm hw hB hz1 hk1 hS => ?_)
  obtain ⟨hP1, hK1, hD1⟩ := hB
  rw [ht] at hP1
  obtain ⟨hP, hD⟩ := va_join (wr := [(q_t, .inr (1, [.int 0, .ref q_t_kind, .ref q_t_position, .ref q_t_told, .ref q_t_capacity, .ref q_t_amount, .ref q_t_liquid, .ref q_t_portsTaken, .ref q_t_endAtPort, .int 0, .ref q_t_pipeLitres, .ref q_t_thingAtEnd, .ref q_t_portAtEnd, .ref q_t_bendAtEnd, .ref q_t_inPipes]))]) (w1 := [(q_t_inPipes, .inr (2, [.ref q_t_inPipes_words])), (q_t_inPipes_words, .inl (cL, 750, .inr (.inl f_t_inPipes_words_c14)))]) hP hD [1, 2] [0] rfl rfl (by decide) (by decide) hk1 hFc hP1 hD1
  have hP : va_P (dC, dI) classes [(q_t, .inr (1, [.int 0, .ref q_t_kind, .ref q_t_position, .ref q_t_told, .ref q_t_capacity, .ref q_t_amount, .ref q_t_liquid, .ref q_t_portsTaken, .ref q_t_endAtPort, .int 0, .ref q_t_pipeLitres, .ref q_t_thingAtEnd, .ref q_t_portAtEnd, .ref q_t_bendAtEnd, .ref q_t_inPipes])), (q_t_inPipes, .inr (2, [.ref q_t_inPipes_words])), (q_t_inPipes_words, .inl (cL, 750, .inr (.inl f_t_inPipes_words_c14)))] H := hP.sub (ws' := [(q_t, .inr (1, [.int 0, .ref q_t_kind, .ref q_t_position, .ref q_t_told, .ref q_t_capacity, .ref q_t_amount, .ref q_t_liquid, .ref q_t_portsTaken, .ref q_t_endAtPort, .int 0, .ref q_t_pipeLitres, .ref q_t_thingAtEnd, .ref q_t_portAtEnd, .ref q_t_bendAtEnd, .ref q_t_inPipes])), (q_t_inPipes, .inr (2, [.ref q_t_inPipes_words])), (q_t_inPipes_words, .inl (cL, 750, .inr (.inl f_t_inPipes_words_c14)))]) [0, 1, 2] rfl
  have hD : va_D A [(q_t, .inr (1, [.int 0, .ref q_t_kind, .ref q_t_position, .ref q_t_told, .ref q_t_capacity, .ref q_t_amount, .ref q_t_liquid, .ref q_t_portsTaken, .ref q_t_endAtPort, .int 0, .ref q_t_pipeLitres, .ref q_t_thingAtEnd, .ref q_t_portAtEnd, .ref q_t_bendAtEnd, .ref q_t_inPipes])), (q_t_inPipes, .inr (2, [.ref q_t_inPipes_words])), (q_t_inPipes_words, .inl (cL, 750, .inr (.inl f_t_inPipes_words_c14)))] := hD.sub (ws' := [(q_t, .inr (1, [.int 0, .ref q_t_kind, .ref q_t_position, .ref q_t_told, .ref q_t_capacity, .ref q_t_amount, .ref q_t_liquid, .ref q_t_portsTaken, .ref q_t_endAtPort, .int 0, .ref q_t_pipeLitres, .ref q_t_thingAtEnd, .ref q_t_portAtEnd, .ref q_t_bendAtEnd, .ref q_t_inPipes])), (q_t_inPipes, .inr (2, [.ref q_t_inPipes_words])), (q_t_inPipes_words, .inl (cL, 750, .inr (.inl f_t_inPipes_words_c14)))]) [0, 1, 2] (by decide) rfl
  exact W.vret hx hb hr (fun t ht hW => ⟨⟨(0, 0, f_t_inPipes_words_c14), rfl, hw, by rw [ht]; exact hP, va_K.moved hW.alike hK, hD⟩, hS.F ht⟩) hS.2.2 d_Pl_clear_17
