theorem dX12_bits_73 : decode cX12_bits 73 = .ok (.iadd, 1) := by decide +kernel
theorem dX12_bits_74 : decode cX12_bits 74 = .ok (.goto 7, 3) := by decide +kernel
theorem dX12_bits_77 : decode cX12_bits 77 = .ok (.aload_n 0, 1) := by decide +kernel
theorem dX12_bits_78 : decode cX12_bits 78 = .ok (.getfield 63, 3) := by decide +kernel
theorem dX12_bits_81 : decode cX12_bits 81 = .ok (.putfield 63, 3) := by decide +kernel
theorem dX12_bits_84 : decode cX12_bits 84 = .ok (.aload_n 0, 1) := by decide +kernel
theorem dX12_bits_85 : decode cX12_bits 85 = .ok (.aload_n 0, 1) := by decide +kernel
theorem dX12_bits_86 : decode cX12_bits 86 = .ok (.getfield 73, 3) := by decide +kernel
theorem dX12_bits_89 : decode cX12_bits 89 = .ok (.bipush 8, 2) := by decide +kernel
theorem dX12_bits_91 : decode cX12_bits 91 = .ok (.if_icmp .ne 7, 3) := by decide +kernel
theorem dX12_bits_94 : decode cX12_bits 94 = .ok (.iconst 0, 1) := by decide +kernel
theorem dX12_bits_95 : decode cX12_bits 95 = .ok (.goto 7, 3) := by decide +kernel
theorem dX12_bits_98 : decode cX12_bits 98 = .ok (.aload_n 0, 1) := by decide +kernel
theorem dX12_bits_99 : decode cX12_bits 99 = .ok (.getfield 73, 3) := by decide +kernel
theorem dX12_bits_102 : decode cX12_bits 102 = .ok (.putfield 73, 3) := by decide +kernel
theorem dX12_bits_105 : decode cX12_bits 105 = .ok (.iinc 3 1, 3) := by decide +kernel
theorem dX12_bits_108 : decode cX12_bits 108 = .ok (.goto (-104), 3) := by decide +kernel
theorem dX12_bits_111 : decode cX12_bits 111 = .ok (.iload_n 2, 1) := by decide +kernel
theorem dX12_bits_112 : decode cX12_bits 112 = .ok (.ireturn, 1) := by decide +kernel
theorem dX12_evenOut_0 : decode cX12_evenOut 0 = .ok (.aload_n 0, 1) := by decide +kernel
theorem dX12_evenOut_1 : decode cX12_evenOut 1 = .ok (.aload_n 0, 1) := by decide +kernel
theorem dX12_evenOut_2 : decode cX12_evenOut 2 = .ok (.getfield 73, 3) := by decide +kernel
theorem dX12_evenOut_5 : decode cX12_evenOut 5 = .ok (.ifCond .le 12, 3) := by decide +kernel
theorem dX12_evenOut_8 : decode cX12_evenOut 8 = .ok (.aload_n 0, 1) := by decide +kernel
theorem dX12_evenOut_9 : decode cX12_evenOut 9 = .ok (.getfield 63, 3) := by decide +kernel
theorem dX12_evenOut_12 : decode cX12_evenOut 12 = .ok (.iconst 1, 1) := by decide +kernel
theorem dX12_evenOut_13 : decode cX12_evenOut 13 = .ok (.iadd, 1) := by decide +kernel
theorem dX12_evenOut_14 : decode cX12_evenOut 14 = .ok (.goto 7, 3) := by decide +kernel
theorem dX12_evenOut_17 : decode cX12_evenOut 17 = .ok (.aload_n 0, 1) := by decide +kernel
theorem dX12_evenOut_18 : decode cX12_evenOut 18 = .ok (.getfield 63, 3) := by decide +kernel
theorem dX12_evenOut_21 : decode cX12_evenOut 21 = .ok (.putfield 63, 3) := by decide +kernel
theorem dX12_evenOut_24 : decode cX12_evenOut 24 = .ok (.aload_n 0, 1) := by decide +kernel
theorem dX12_evenOut_25 : decode cX12_evenOut 25 = .ok (.iconst 0, 1) := by decide +kernel
theorem dX12_evenOut_26 : decode cX12_evenOut 26 = .ok (.putfield 73, 3) := by decide +kernel
theorem dX12_evenOut_29 : decode cX12_evenOut 29 = .ok (.return_, 1) := by decide +kernel
theorem dX12_emit_0 : decode cX12_emit 0 = .ok (.aload_n 0, 1) := by decide +kernel
theorem dX12_emit_1 : decode cX12_emit 1 = .ok (.getfield 76, 3) := by decide +kernel
theorem dX12_emit_4 : decode cX12_emit 4 = .ok (.sipush 1100, 3) := by decide +kernel
theorem dX12_emit_7 : decode cX12_emit 7 = .ok (.if_icmp .ne 11, 3) := by decide +kernel
theorem dX12_emit_10 : decode cX12_emit 10 = .ok (.aload_n 0, 1) := by decide +kernel
theorem dX12_emit_11 : decode cX12_emit 11 = .ok (.iconst 1, 1) := by decide +kernel
theorem dX12_emit_12 : decode cX12_emit 12 = .ok (.putfield 69, 3) := by decide +kernel
theorem dX12_emit_15 : decode cX12_emit 15 = .ok (.goto 24, 3) := by decide +kernel
theorem dX12_emit_18 : decode cX12_emit 18 = .ok (.aload_n 0, 1) := by decide +kernel
theorem dX12_emit_19 : decode cX12_emit 19 = .ok (.getfield 39, 3) := by decide +kernel
theorem dX12_emit_22 : decode cX12_emit 22 = .ok (.aload_n 0, 1) := by decide +kernel
theorem dX12_emit_23 : decode cX12_emit 23 = .ok (.getfield 76, 3) := by decide +kernel
theorem dX12_emit_26 : decode cX12_emit 26 = .ok (.iload_n 1, 1) := by decide +kernel
theorem dX12_emit_27 : decode cX12_emit 27 = .ok (.i2b, 1) := by decide +kernel
theorem dX12_emit_28 : decode cX12_emit 28 = .ok (.bastore, 1) := by decide +kernel
theorem dX12_emit_29 : decode cX12_emit 29 = .ok (.aload_n 0, 1) := by decide +kernel
theorem dX12_emit_30 : decode cX12_emit 30 = .ok (.dup, 1) := by decide +kernel
theorem dX12_emit_31 : decode cX12_emit 31 = .ok (.getfield 76, 3) := by decide +kernel
theorem dX12_emit_34 : decode cX12_emit 34 = .ok (.iconst 1, 1) := by decide +kernel
theorem dX12_emit_35 : decode cX12_emit 35 = .ok (.iadd, 1) := by decide +kernel
theorem dX12_emit_36 : decode cX12_emit 36 = .ok (.putfield 76, 3) := by decide +kernel
theorem dX12_emit_39 : decode cX12_emit 39 = .ok (.return_, 1) := by decide +kernel
theorem dX12_makeCodes_0 : decode cX12_makeCodes 0 = .ok (.iconst 0, 1) := by decide +kernel
theorem dX12_makeCodes_1 : decode cX12_makeCodes 1 = .ok (.istore 4, 2) := by decide +kernel
theorem dX12_makeCodes_3 : decode cX12_makeCodes 3 = .ok (.iconst 0, 1) := by decide +kernel
theorem dX12_makeCodes_4 : decode cX12_makeCodes 4 = .ok (.istore 5, 2) := by decide +kernel
theorem dX12_makeCodes_6 : decode cX12_makeCodes 6 = .ok (.iconst 0, 1) := by decide +kernel
theorem dX12_makeCodes_7 : decode cX12_makeCodes 7 = .ok (.istore 6, 2) := by decide +kernel
theorem dX12_makeCodes_9 : decode cX12_makeCodes 9 = .ok (.iconst 1, 1) := by decide +kernel
theorem dX12_makeCodes_10 : decode cX12_makeCodes 10 = .ok (.istore 7, 2) := by decide +kernel
theorem dX12_makeCodes_12 : decode cX12_makeCodes 12 = .ok (.iload 7, 2) := by decide +kernel
theorem dX12_makeCodes_14 : decode cX12_makeCodes 14 = .ok (.bipush 16, 2) := by decide +kernel
theorem dX12_makeCodes_16 : decode cX12_makeCodes 16 = .ok (.if_icmp .ge 71, 3) := by decide +kernel
theorem dX12_makeCodes_19 : decode cX12_makeCodes 19 = .ok (.iconst 2, 1) := by decide +kernel
theorem dX12_makeCodes_20 : decode cX12_makeCodes 20 = .ok (.iload 4, 2) := by decide +kernel
theorem dX12_makeCodes_22 : decode cX12_makeCodes 22 = .ok (.imul, 1) := by decide +kernel
theorem dX12_makeCodes_23 : decode cX12_makeCodes 23 = .ok (.istore 4, 2) := by decide +kernel
theorem dX12_makeCodes_25 : decode cX12_makeCodes 25 = .ok (.iload_n 1, 1) := by decide +kernel
theorem dX12_makeCodes_26 : decode cX12_makeCodes 26 = .ok (.istore 8, 2) := by decide +kernel
theorem dX12_makeCodes_28 : decode cX12_makeCodes 28 = .ok (.iload 8, 2) := by decide +kernel
theorem dX12_makeCodes_30 : decode cX12_makeCodes 30 = .ok (.iload_n 1, 1) := by decide +kernel
theorem dX12_makeCodes_31 : decode cX12_makeCodes 31 = .ok (.iload_n 2, 1) := by decide +kernel
theorem dX12_makeCodes_32 : decode cX12_makeCodes 32 = .ok (.iadd, 1) := by decide +kernel
theorem dX12_makeCodes_33 : decode cX12_makeCodes 33 = .ok (.if_icmp .ge 48, 3) := by decide +kernel
theorem dX12_makeCodes_36 : decode cX12_makeCodes 36 = .ok (.aload_n 0, 1) := by decide +kernel
theorem dX12_makeCodes_37 : decode cX12_makeCodes 37 = .ok (.getfield 42, 3) := by decide +kernel
theorem dX12_makeCodes_40 : decode cX12_makeCodes 40 = .ok (.iload 8, 2) := by decide +kernel
theorem dX12_makeCodes_42 : decode cX12_makeCodes 42 = .ok (.iaload, 1) := by decide +kernel
theorem dX12_makeCodes_43 : decode cX12_makeCodes 43 = .ok (.iload 7, 2) := by decide +kernel
theorem dX12_makeCodes_45 : decode cX12_makeCodes 45 = .ok (.if_icmp .ne 30, 3) := by decide +kernel
theorem dX12_makeCodes_48 : decode cX12_makeCodes 48 = .ok (.aload_n 0, 1) := by decide +kernel
theorem dX12_makeCodes_49 : decode cX12_makeCodes 49 = .ok (.getfield 45, 3) := by decide +kernel
theorem dX12_makeCodes_52 : decode cX12_makeCodes 52 = .ok (.iload 8, 2) := by decide +kernel
theorem dX12_makeCodes_54 : decode cX12_makeCodes 54 = .ok (.iload 4, 2) := by decide +kernel
theorem dX12_makeCodes_56 : decode cX12_makeCodes 56 = .ok (.iastore, 1) := by decide +kernel
theorem dX12_makeCodes_57 : decode cX12_makeCodes 57 = .ok (.iinc 4 1, 3) := by decide +kernel
theorem dX12_makeCodes_60 : decode cX12_makeCodes 60 = .ok (.iinc 5 1, 3) := by decide +kernel
theorem dX12_makeCodes_63 : decode cX12_makeCodes 63 = .ok (.iload 6, 2) := by decide +kernel
theorem dX12_makeCodes_65 : decode cX12_makeCodes 65 = .ok (.iconst 1, 1) := by decide +kernel
theorem dX12_makeCodes_66 : decode cX12_makeCodes 66 = .ok (.bipush 15, 2) := by decide +kernel
theorem dX12_makeCodes_68 : decode cX12_makeCodes 68 = .ok (.iload 7, 2) := by decide +kernel
theorem dX12_makeCodes_70 : decode cX12_makeCodes 70 = .ok (.isub, 1) := by decide +kernel
theorem dX12_makeCodes_71 : decode cX12_makeCodes 71 = .ok (.ishl, 1) := by decide +kernel
theorem dX12_makeCodes_72 : decode cX12_makeCodes 72 = .ok (.iadd, 1) := by decide +kernel
theorem dX12_makeCodes_73 : decode cX12_makeCodes 73 = .ok (.istore 6, 2) := by decide +kernel
theorem dX12_makeCodes_75 : decode cX12_makeCodes 75 = .ok (.iinc 8 1, 3) := by decide +kernel
theorem dX12_makeCodes_78 : decode cX12_makeCodes 78 = .ok (.goto (-50), 3) := by decide +kernel
theorem dX12_makeCodes_81 : decode cX12_makeCodes 81 = .ok (.iinc 7 1, 3) := by decide +kernel
theorem dX12_makeCodes_84 : decode cX12_makeCodes 84 = .ok (.goto (-72), 3) := by decide +kernel
theorem dX12_makeCodes_87 : decode cX12_makeCodes 87 = .ok (.iload 5, 2) := by decide +kernel
theorem dX12_makeCodes_89 : decode cX12_makeCodes 89 = .ok (.ifCond .eq 17, 3) := by decide +kernel
theorem dX12_makeCodes_92 : decode cX12_makeCodes 92 = .ok (.iload 5, 2) := by decide +kernel
theorem dX12_makeCodes_94 : decode cX12_makeCodes 94 = .ok (.iconst 1, 1) := by decide +kernel
theorem dX12_makeCodes_95 : decode cX12_makeCodes 95 = .ok (.if_icmp .ne 15, 3) := by decide +kernel
theorem dX12_makeCodes_98 : decode cX12_makeCodes 98 = .ok (.iload 6, 2) := by decide +kernel
theorem dX12_makeCodes_100 : decode cX12_makeCodes 100 = .ok (.sipush 16384, 3) := by decide +kernel
theorem dX12_makeCodes_103 : decode cX12_makeCodes 103 = .ok (.if_icmp .ne 7, 3) := by decide +kernel
theorem dX12_makeCodes_106 : decode cX12_makeCodes 106 = .ok (.iconst 1, 1) := by decide +kernel
theorem dX12_makeCodes_107 : decode cX12_makeCodes 107 = .ok (.goto 4, 3) := by decide +kernel
theorem dX12_makeCodes_110 : decode cX12_makeCodes 110 = .ok (.iconst 0, 1) := by decide +kernel
theorem dX12_makeCodes_111 : decode cX12_makeCodes 111 = .ok (.istore 7, 2) := by decide +kernel
theorem dX12_makeCodes_113 : decode cX12_makeCodes 113 = .ok (.aload_n 0, 1) := by decide +kernel
theorem dX12_makeCodes_114 : decode cX12_makeCodes 114 = .ok (.aload_n 0, 1) := by decide +kernel
theorem dX12_makeCodes_115 : decode cX12_makeCodes 115 = .ok (.getfield 69, 3) := by decide +kernel
theorem dX12_makeCodes_118 : decode cX12_makeCodes 118 = .ok (.ifCond .ne 19, 3) := by decide +kernel
theorem dX12_makeCodes_121 : decode cX12_makeCodes 121 = .ok (.iload 6, 2) := by decide +kernel
theorem dX12_makeCodes_123 : decode cX12_makeCodes 123 = .ok (.ldc 79, 2) := by decide +kernel
theorem dX12_makeCodes_125 : decode cX12_makeCodes 125 = .ok (.if_icmp .eq 16, 3) := by decide +kernel
theorem dX12_makeCodes_128 : decode cX12_makeCodes 128 = .ok (.iload_n 3, 1) := by decide +kernel
theorem dX12_makeCodes_129 : decode cX12_makeCodes 129 = .ok (.ifCond .eq 8, 3) := by decide +kernel
theorem dX12_makeCodes_132 : decode cX12_makeCodes 132 = .ok (.iload 7, 2) := by decide +kernel
theorem dX12_makeCodes_134 : decode cX12_makeCodes 134 = .ok (.ifCond .ne 7, 3) := by decide +kernel
theorem dX12_makeCodes_137 : decode cX12_makeCodes 137 = .ok (.iconst 1, 1) := by decide +kernel
theorem dX12_makeCodes_138 : decode cX12_makeCodes 138 = .ok (.goto 4, 3) := by decide +kernel
theorem dX12_makeCodes_141 : decode cX12_makeCodes 141 = .ok (.iconst 0, 1) := by decide +kernel
theorem dX12_makeCodes_142 : decode cX12_makeCodes 142 = .ok (.putfield 69, 3) := by decide +kernel
theorem dX12_makeCodes_145 : decode cX12_makeCodes 145 = .ok (.return_, 1) := by decide +kernel
theorem dX12_symbol_0 : decode cX12_symbol 0 = .ok (.iconst 0, 1) := by decide +kernel
theorem dX12_symbol_1 : decode cX12_symbol 1 = .ok (.istore_n 3, 1) := by decide +kernel
theorem dX12_symbol_2 : decode cX12_symbol 2 = .ok (.iconst 1, 1) := by decide +kernel
theorem dX12_symbol_3 : decode cX12_symbol 3 = .ok (.istore 4, 2) := by decide +kernel
theorem dX12_symbol_5 : decode cX12_symbol 5 = .ok (.iload 4, 2) := by decide +kernel
theorem dX12_symbol_7 : decode cX12_symbol 7 = .ok (.bipush 16, 2) := by decide +kernel
theorem dX12_symbol_9 : decode cX12_symbol 9 = .ok (.if_icmp .ge 78, 3) := by decide +kernel
theorem dX12_symbol_12 : decode cX12_symbol 12 = .ok (.aload_n 0, 1) := by decide +kernel
theorem dX12_symbol_13 : decode cX12_symbol 13 = .ok (.getfield 69, 3) := by decide +kernel
theorem dX12_symbol_16 : decode cX12_symbol 16 = .ok (.ifCond .ne 71, 3) := by decide +kernel
theorem dX12_symbol_19 : decode cX12_symbol 19 = .ok (.iconst 2, 1) := by decide +kernel
theorem dX12_symbol_20 : decode cX12_symbol 20 = .ok (.iload_n 3, 1) := by decide +kernel
theorem dX12_symbol_21 : decode cX12_symbol 21 = .ok (.imul, 1) := by decide +kernel
theorem dX12_symbol_22 : decode cX12_symbol 22 = .ok (.aload_n 0, 1) := by decide +kernel
theorem dX12_symbol_23 : decode cX12_symbol 23 = .ok (.iconst 1, 1) := by decide +kernel
theorem dX12_symbol_24 : decode cX12_symbol 24 = .ok (.invokevirtual 80, 3) := by decide +kernel
theorem dX12_symbol_27 : decode cX12_symbol 27 = .ok (.iadd, 1) := by decide +kernel
theorem dX12_symbol_28 : decode cX12_symbol 28 = .ok (.istore_n 3, 1) := by decide +kernel
theorem dX12_symbol_29 : decode cX12_symbol 29 = .ok (.iload_n 1, 1) := by decide +kernel
theorem dX12_symbol_30 : decode cX12_symbol 30 = .ok (.istore 5, 2) := by decide +kernel
theorem dX12_symbol_32 : decode cX12_symbol 32 = .ok (.iload 5, 2) := by decide +kernel
theorem dX12_symbol_34 : decode cX12_symbol 34 = .ok (.iload_n 1, 1) := by decide +kernel
theorem dX12_symbol_35 : decode cX12_symbol 35 = .ok (.iload_n 2, 1) := by decide +kernel
theorem dX12_symbol_36 : decode cX12_symbol 36 = .ok (.iadd, 1) := by decide +kernel
theorem dX12_symbol_37 : decode cX12_symbol 37 = .ok (.if_icmp .ge 44, 3) := by decide +kernel
theorem dX12_symbol_40 : decode cX12_symbol 40 = .ok (.aload_n 0, 1) := by decide +kernel
theorem dX12_symbol_41 : decode cX12_symbol 41 = .ok (.getfield 69, 3) := by decide +kernel
theorem dX12_symbol_44 : decode cX12_symbol 44 = .ok (.ifCond .ne 37, 3) := by decide +kernel
theorem dX12_symbol_47 : decode cX12_symbol 47 = .ok (.aload_n 0, 1) := by decide +kernel
theorem dX12_symbol_48 : decode cX12_symbol 48 = .ok (.getfield 42, 3) := by decide +kernel
theorem dX12_symbol_51 : decode cX12_symbol 51 = .ok (.iload 5, 2) := by decide +kernel
theorem dX12_symbol_53 : decode cX12_symbol 53 = .ok (.iaload, 1) := by decide +kernel
theorem dX12_symbol_54 : decode cX12_symbol 54 = .ok (.iload 4, 2) := by decide +kernel
theorem dX12_symbol_56 : decode cX12_symbol 56 = .ok (.if_icmp .ne 19, 3) := by decide +kernel
theorem dX12_symbol_59 : decode cX12_symbol 59 = .ok (.aload_n 0, 1) := by decide +kernel
theorem dX12_symbol_60 : decode cX12_symbol 60 = .ok (.getfield 45, 3) := by decide +kernel
theorem dX12_symbol_63 : decode cX12_symbol 63 = .ok (.iload 5, 2) := by decide +kernel
theorem dX12_symbol_65 : decode cX12_symbol 65 = .ok (.iaload, 1) := by decide +kernel
theorem dX12_symbol_66 : decode cX12_symbol 66 = .ok (.iload_n 3, 1) := by decide +kernel
theorem dX12_symbol_67 : decode cX12_symbol 67 = .ok (.if_icmp .ne 8, 3) := by decide +kernel
theorem dX12_symbol_70 : decode cX12_symbol 70 = .ok (.iload 5, 2) := by decide +kernel
theorem dX12_symbol_72 : decode cX12_symbol 72 = .ok (.iload_n 1, 1) := by decide +kernel
theorem dX12_symbol_73 : decode cX12_symbol 73 = .ok (.isub, 1) := by decide +kernel
theorem dX12_symbol_74 : decode cX12_symbol 74 = .ok (.ireturn, 1) := by decide +kernel
theorem dX12_symbol_75 : decode cX12_symbol 75 = .ok (.iinc 5 1, 3) := by decide +kernel
theorem dX12_symbol_78 : decode cX12_symbol 78 = .ok (.goto (-46), 3) := by decide +kernel
theorem dX12_symbol_81 : decode cX12_symbol 81 = .ok (.iinc 4 1, 3) := by decide +kernel
theorem dX12_symbol_84 : decode cX12_symbol 84 = .ok (.goto (-79), 3) := by decide +kernel
theorem dX12_symbol_87 : decode cX12_symbol 87 = .ok (.aload_n 0, 1) := by decide +kernel
theorem dX12_symbol_88 : decode cX12_symbol 88 = .ok (.iconst 1, 1) := by decide +kernel
theorem dX12_symbol_89 : decode cX12_symbol 89 = .ok (.putfield 69, 3) := by decide +kernel
theorem dX12_symbol_92 : decode cX12_symbol 92 = .ok (.iconst 0, 1) := by decide +kernel
theorem dX12_symbol_93 : decode cX12_symbol 93 = .ok (.ireturn, 1) := by decide +kernel
theorem dX12_lengthBits_0 : decode cX12_lengthBits 0 = .ok (.iload_n 0, 1) := by decide +kernel
theorem dX12_lengthBits_1 : decode cX12_lengthBits 1 = .ok (.sipush 265, 3) := by decide +kernel
theorem dX12_lengthBits_4 : decode cX12_lengthBits 4 = .ok (.if_icmp .lt 10, 3) := by decide +kernel
theorem dX12_lengthBits_7 : decode cX12_lengthBits 7 = .ok (.iload_n 0, 1) := by decide +kernel
theorem dX12_lengthBits_8 : decode cX12_lengthBits 8 = .ok (.sipush 285, 3) := by decide +kernel
theorem dX12_lengthBits_11 : decode cX12_lengthBits 11 = .ok (.if_icmp .ne 7, 3) := by decide +kernel
theorem dX12_lengthBits_14 : decode cX12_lengthBits 14 = .ok (.iconst 0, 1) := by decide +kernel
theorem dX12_lengthBits_15 : decode cX12_lengthBits 15 = .ok (.goto 10, 3) := by decide +kernel
theorem dX12_lengthBits_18 : decode cX12_lengthBits 18 = .ok (.iload_n 0, 1) := by decide +kernel
theorem dX12_lengthBits_19 : decode cX12_lengthBits 19 = .ok (.sipush 261, 3) := by decide +kernel
theorem dX12_lengthBits_22 : decode cX12_lengthBits 22 = .ok (.isub, 1) := by decide +kernel
theorem dX12_lengthBits_23 : decode cX12_lengthBits 23 = .ok (.iconst 4, 1) := by decide +kernel
theorem dX12_lengthBits_24 : decode cX12_lengthBits 24 = .ok (.idiv, 1) := by decide +kernel
theorem dX12_lengthBits_25 : decode cX12_lengthBits 25 = .ok (.ireturn, 1) := by decide +kernel
theorem dX12_lengthBase_0 : decode cX12_lengthBase 0 = .ok (.iconst 3, 1) := by decide +kernel
theorem dX12_lengthBase_1 : decode cX12_lengthBase 1 = .ok (.istore_n 1, 1) := by decide +kernel
theorem dX12_lengthBase_2 : decode cX12_lengthBase 2 = .ok (.sipush 257, 3) := by decide +kernel
theorem dX12_lengthBase_5 : decode cX12_lengthBase 5 = .ok (.istore_n 2, 1) := by decide +kernel
theorem dX12_lengthBase_6 : decode cX12_lengthBase 6 = .ok (.iload_n 2, 1) := by decide +kernel
theorem dX12_lengthBase_7 : decode cX12_lengthBase 7 = .ok (.iload_n 0, 1) := by decide +kernel
theorem dX12_lengthBase_8 : decode cX12_lengthBase 8 = .ok (.if_icmp .ge 18, 3) := by decide +kernel
theorem dX12_lengthBase_11 : decode cX12_lengthBase 11 = .ok (.iload_n 1, 1) := by decide +kernel
theorem dX12_lengthBase_12 : decode cX12_lengthBase 12 = .ok (.iconst 1, 1) := by decide +kernel
theorem dX12_lengthBase_13 : decode cX12_lengthBase 13 = .ok (.iload_n 2, 1) := by decide +kernel
theorem dX12_lengthBase_14 : decode cX12_lengthBase 14 = .ok (.invokestatic 83, 3) := by decide +kernel
theorem dX12_lengthBase_17 : decode cX12_lengthBase 17 = .ok (.ishl, 1) := by decide +kernel
theorem dX12_lengthBase_18 : decode cX12_lengthBase 18 = .ok (.iadd, 1) := by decide +kernel
theorem dX12_lengthBase_19 : decode cX12_lengthBase 19 = .ok (.istore_n 1, 1) := by decide +kernel
theorem dX12_lengthBase_20 : decode cX12_lengthBase 20 = .ok (.iinc 2 1, 3) := by decide +kernel
theorem dX12_lengthBase_23 : decode cX12_lengthBase 23 = .ok (.goto (-17), 3) := by decide +kernel
theorem dX12_lengthBase_26 : decode cX12_lengthBase 26 = .ok (.iload_n 0, 1) := by decide +kernel
theorem dX12_lengthBase_27 : decode cX12_lengthBase 27 = .ok (.sipush 285, 3) := by decide +kernel
theorem dX12_lengthBase_30 : decode cX12_lengthBase 30 = .ok (.if_icmp .ne 9, 3) := by decide +kernel
theorem dX12_lengthBase_33 : decode cX12_lengthBase 33 = .ok (.sipush 258, 3) := by decide +kernel
theorem dX12_lengthBase_36 : decode cX12_lengthBase 36 = .ok (.goto 4, 3) := by decide +kernel
theorem dX12_lengthBase_39 : decode cX12_lengthBase 39 = .ok (.iload_n 1, 1) := by decide +kernel
theorem dX12_lengthBase_40 : decode cX12_lengthBase 40 = .ok (.ireturn, 1) := by decide +kernel
theorem dX12_distanceBits_0 : decode cX12_distanceBits 0 = .ok (.iload_n 0, 1) := by decide +kernel
theorem dX12_distanceBits_1 : decode cX12_distanceBits 1 = .ok (.iconst 4, 1) := by decide +kernel
theorem dX12_distanceBits_2 : decode cX12_distanceBits 2 = .ok (.if_icmp .ge 7, 3) := by decide +kernel
theorem dX12_distanceBits_5 : decode cX12_distanceBits 5 = .ok (.iconst 0, 1) := by decide +kernel
theorem dX12_distanceBits_6 : decode cX12_distanceBits 6 = .ok (.goto 8, 3) := by decide +kernel
theorem dX12_distanceBits_9 : decode cX12_distanceBits 9 = .ok (.iload_n 0, 1) := by decide +kernel
theorem dX12_distanceBits_10 : decode cX12_distanceBits 10 = .ok (.iconst 2, 1) := by decide +kernel
theorem dX12_distanceBits_11 : decode cX12_distanceBits 11 = .ok (.isub, 1) := by decide +kernel
theorem dX12_distanceBits_12 : decode cX12_distanceBits 12 = .ok (.iconst 2, 1) := by decide +kernel
theorem dX12_distanceBits_13 : decode cX12_distanceBits 13 = .ok (.idiv, 1) := by decide +kernel
theorem dX12_distanceBits_14 : decode cX12_distanceBits 14 = .ok (.ireturn, 1) := by decide +kernel
theorem dX12_distanceBase_0 : decode cX12_distanceBase 0 = .ok (.iconst 1, 1) := by decide +kernel
theorem dX12_distanceBase_1 : decode cX12_distanceBase 1 = .ok (.istore_n 1, 1) := by decide +kernel
theorem dX12_distanceBase_2 : decode cX12_distanceBase 2 = .ok (.iconst 0, 1) := by decide +kernel
theorem dX12_distanceBase_3 : decode cX12_distanceBase 3 = .ok (.istore_n 2, 1) := by decide +kernel
theorem dX12_distanceBase_4 : decode cX12_distanceBase 4 = .ok (.iload_n 2, 1) := by decide +kernel
theorem dX12_distanceBase_5 : decode cX12_distanceBase 5 = .ok (.iload_n 0, 1) := by decide +kernel
theorem dX12_distanceBase_6 : decode cX12_distanceBase 6 = .ok (.if_icmp .ge 18, 3) := by decide +kernel
theorem dX12_distanceBase_9 : decode cX12_distanceBase 9 = .ok (.iload_n 1, 1) := by decide +kernel
theorem dX12_distanceBase_10 : decode cX12_distanceBase 10 = .ok (.iconst 1, 1) := by decide +kernel
theorem dX12_distanceBase_11 : decode cX12_distanceBase 11 = .ok (.iload_n 2, 1) := by decide +kernel
theorem dX12_distanceBase_12 : decode cX12_distanceBase 12 = .ok (.invokestatic 86, 3) := by decide +kernel
theorem dX12_distanceBase_15 : decode cX12_distanceBase 15 = .ok (.ishl, 1) := by decide +kernel
theorem dX12_distanceBase_16 : decode cX12_distanceBase 16 = .ok (.iadd, 1) := by decide +kernel
theorem dX12_distanceBase_17 : decode cX12_distanceBase 17 = .ok (.istore_n 1, 1) := by decide +kernel
theorem dX12_distanceBase_18 : decode cX12_distanceBase 18 = .ok (.iinc 2 1, 3) := by decide +kernel
theorem dX12_distanceBase_21 : decode cX12_distanceBase 21 = .ok (.goto (-17), 3) := by decide +kernel
theorem dX12_distanceBase_24 : decode cX12_distanceBase 24 = .ok (.iload_n 1, 1) := by decide +kernel
theorem dX12_distanceBase_25 : decode cX12_distanceBase 25 = .ok (.ireturn, 1) := by decide +kernel
theorem dX12_match_0 : decode cX12_match 0 = .ok (.iload_n 1, 1) := by decide +kernel
theorem dX12_match_1 : decode cX12_match 1 = .ok (.invokestatic 89, 3) := by decide +kernel
theorem dX12_match_4 : decode cX12_match 4 = .ok (.aload_n 0, 1) := by decide +kernel
theorem dX12_match_5 : decode cX12_match 5 = .ok (.iload_n 1, 1) := by decide +kernel
theorem dX12_match_6 : decode cX12_match 6 = .ok (.invokestatic 83, 3) := by decide +kernel
theorem dX12_match_9 : decode cX12_match 9 = .ok (.invokevirtual 80, 3) := by decide +kernel
theorem dX12_match_12 : decode cX12_match 12 = .ok (.iadd, 1) := by decide +kernel
theorem dX12_match_13 : decode cX12_match 13 = .ok (.istore_n 3, 1) := by decide +kernel
theorem dX12_match_14 : decode cX12_match 14 = .ok (.aload_n 0, 1) := by decide +kernel
theorem dX12_match_15 : decode cX12_match 15 = .ok (.sipush 320, 3) := by decide +kernel
theorem dX12_match_18 : decode cX12_match 18 = .ok (.iload_n 2, 1) := by decide +kernel
theorem dX12_match_19 : decode cX12_match 19 = .ok (.invokevirtual 92, 3) := by decide +kernel
theorem dX12_match_22 : decode cX12_match 22 = .ok (.istore 4, 2) := by decide +kernel
theorem dX12_match_24 : decode cX12_match 24 = .ok (.aload_n 0, 1) := by decide +kernel
theorem dX12_match_25 : decode cX12_match 25 = .ok (.getfield 69, 3) := by decide +kernel
theorem dX12_match_28 : decode cX12_match 28 = .ok (.ifCond .ne 10, 3) := by decide +kernel
theorem dX12_match_31 : decode cX12_match 31 = .ok (.iload 4, 2) := by decide +kernel
theorem dX12_match_33 : decode cX12_match 33 = .ok (.bipush 29, 2) := by decide +kernel
theorem dX12_match_35 : decode cX12_match 35 = .ok (.if_icmp .le 9, 3) := by decide +kernel
theorem dX12_match_38 : decode cX12_match 38 = .ok (.aload_n 0, 1) := by decide +kernel
theorem dX12_match_39 : decode cX12_match 39 = .ok (.iconst 1, 1) := by decide +kernel
theorem dX12_match_40 : decode cX12_match 40 = .ok (.putfield 69, 3) := by decide +kernel
theorem dX12_match_43 : decode cX12_match 43 = .ok (.return_, 1) := by decide +kernel
theorem dX12_match_44 : decode cX12_match 44 = .ok (.iload 4, 2) := by decide +kernel
theorem dX12_match_46 : decode cX12_match 46 = .ok (.invokestatic 95, 3) := by decide +kernel
theorem dX12_match_49 : decode cX12_match 49 = .ok (.aload_n 0, 1) := by decide +kernel
theorem dX12_match_50 : decode cX12_match 50 = .ok (.iload 4, 2) := by decide +kernel
theorem dX12_match_52 : decode cX12_match 52 = .ok (.invokestatic 86, 3) := by decide +kernel
theorem dX12_match_55 : decode cX12_match 55 = .ok (.invokevirtual 80, 3) := by decide +kernel
theorem dX12_match_58 : decode cX12_match 58 = .ok (.iadd, 1) := by decide +kernel
theorem dX12_match_59 : decode cX12_match 59 = .ok (.istore 5, 2) := by decide +kernel
theorem dX12_match_61 : decode cX12_match 61 = .ok (.aload_n 0, 1) := by decide +kernel
theorem dX12_match_62 : decode cX12_match 62 = .ok (.aload_n 0, 1) := by decide +kernel
theorem dX12_match_63 : decode cX12_match 63 = .ok (.getfield 69, 3) := by decide +kernel
theorem dX12_match_66 : decode cX12_match 66 = .ok (.ifCond .ne 12, 3) := by decide +kernel
theorem dX12_match_69 : decode cX12_match 69 = .ok (.iload 5, 2) := by decide +kernel
theorem dX12_match_71 : decode cX12_match 71 = .ok (.aload_n 0, 1) := by decide +kernel
theorem dX12_match_72 : decode cX12_match 72 = .ok (.getfield 76, 3) := by decide +kernel
theorem dX12_match_75 : decode cX12_match 75 = .ok (.if_icmp .le 7, 3) := by decide +kernel
theorem dX12_match_78 : decode cX12_match 78 = .ok (.iconst 1, 1) := by decide +kernel
theorem dX12_match_79 : decode cX12_match 79 = .ok (.goto 4, 3) := by decide +kernel
theorem dX12_match_82 : decode cX12_match 82 = .ok (.iconst 0, 1) := by decide +kernel
theorem dX12_match_83 : decode cX12_match 83 = .ok (.putfield 69, 3) := by decide +kernel
theorem dX12_match_86 : decode cX12_match 86 = .ok (.iconst 0, 1) := by decide +kernel
theorem dX12_match_87 : decode cX12_match 87 = .ok (.istore 6, 2) := by decide +kernel
theorem dX12_match_89 : decode cX12_match 89 = .ok (.iload 6, 2) := by decide +kernel
theorem dX12_match_91 : decode cX12_match 91 = .ok (.iload_n 3, 1) := by decide +kernel
theorem dX12_match_92 : decode cX12_match 92 = .ok (.if_icmp .ge 32, 3) := by decide +kernel
theorem dX12_match_95 : decode cX12_match 95 = .ok (.aload_n 0, 1) := by decide +kernel
theorem dX12_match_96 : decode cX12_match 96 = .ok (.getfield 69, 3) := by decide +kernel
theorem dX12_match_99 : decode cX12_match 99 = .ok (.ifCond .ne 25, 3) := by decide +kernel
theorem dX12_match_102 : decode cX12_match 102 = .ok (.aload_n 0, 1) := by decide +kernel
theorem dX12_match_103 : decode cX12_match 103 = .ok (.aload_n 0, 1) := by decide +kernel
theorem dX12_match_104 : decode cX12_match 104 = .ok (.getfield 39, 3) := by decide +kernel
theorem dX12_match_107 : decode cX12_match 107 = .ok (.aload_n 0, 1) := by decide +kernel
theorem dX12_match_108 : decode cX12_match 108 = .ok (.getfield 76, 3) := by decide +kernel
theorem dX12_match_111 : decode cX12_match 111 = .ok (.iload 5, 2) := by decide +kernel
theorem dX12_match_113 : decode cX12_match 113 = .ok (.isub, 1) := by decide +kernel
theorem dX12_match_114 : decode cX12_match 114 = .ok (.baload, 1) := by decide +kernel
theorem dX12_match_115 : decode cX12_match 115 = .ok (.invokevirtual 98, 3) := by decide +kernel
theorem dX12_match_118 : decode cX12_match 118 = .ok (.iinc 6 1, 3) := by decide +kernel
theorem dX12_match_121 : decode cX12_match 121 = .ok (.goto (-32), 3) := by decide +kernel
theorem dX12_match_124 : decode cX12_match 124 = .ok (.return_, 1) := by decide +kernel
theorem dX12_coded_0 : decode cX12_coded 0 = .ok (.aload_n 0, 1) := by decide +kernel
theorem dX12_coded_1 : decode cX12_coded 1 = .ok (.getfield 69, 3) := by decide +kernel
theorem dX12_coded_4 : decode cX12_coded 4 = .ok (.ifCond .ne 7, 3) := by decide +kernel
theorem dX12_coded_7 : decode cX12_coded 7 = .ok (.iconst 1, 1) := by decide +kernel
theorem dX12_coded_8 : decode cX12_coded 8 = .ok (.goto 4, 3) := by decide +kernel
theorem dX12_coded_11 : decode cX12_coded 11 = .ok (.iconst 0, 1) := by decide +kernel
theorem dX12_coded_12 : decode cX12_coded 12 = .ok (.istore_n 3, 1) := by decide +kernel
theorem dX12_coded_13 : decode cX12_coded 13 = .ok (.iload_n 3, 1) := by decide +kernel
theorem dX12_coded_14 : decode cX12_coded 14 = .ok (.ifCond .eq 105, 3) := by decide +kernel
theorem dX12_coded_17 : decode cX12_coded 17 = .ok (.aload_n 0, 1) := by decide +kernel
theorem dX12_coded_18 : decode cX12_coded 18 = .ok (.iconst 0, 1) := by decide +kernel
theorem dX12_coded_19 : decode cX12_coded 19 = .ok (.iload_n 1, 1) := by decide +kernel
theorem dX12_coded_20 : decode cX12_coded 20 = .ok (.invokevirtual 92, 3) := by decide +kernel
theorem dX12_coded_23 : decode cX12_coded 23 = .ok (.istore 4, 2) := by decide +kernel
theorem dX12_coded_25 : decode cX12_coded 25 = .ok (.iload 4, 2) := by decide +kernel
theorem dX12_coded_27 : decode cX12_coded 27 = .ok (.sipush 256, 3) := by decide +kernel
theorem dX12_coded_30 : decode cX12_coded 30 = .ok (.if_icmp .ge 19, 3) := by decide +kernel
theorem dX12_coded_33 : decode cX12_coded 33 = .ok (.aload_n 0, 1) := by decide +kernel
theorem dX12_coded_34 : decode cX12_coded 34 = .ok (.getfield 69, 3) := by decide +kernel
theorem dX12_coded_37 : decode cX12_coded 37 = .ok (.ifCond .ne 12, 3) := by decide +kernel
theorem dX12_coded_40 : decode cX12_coded 40 = .ok (.aload_n 0, 1) := by decide +kernel
theorem dX12_coded_41 : decode cX12_coded 41 = .ok (.iload 4, 2) := by decide +kernel
theorem dX12_coded_43 : decode cX12_coded 43 = .ok (.invokevirtual 98, 3) := by decide +kernel
theorem dX12_coded_46 : decode cX12_coded 46 = .ok (.goto 49, 3) := by decide +kernel
theorem dX12_coded_49 : decode cX12_coded 49 = .ok (.iload 4, 2) := by decide +kernel
theorem dX12_coded_51 : decode cX12_coded 51 = .ok (.sipush 256, 3) := by decide +kernel
theorem dX12_coded_54 : decode cX12_coded 54 = .ok (.if_icmp .le 41, 3) := by decide +kernel
theorem dX12_coded_57 : decode cX12_coded 57 = .ok (.aload_n 0, 1) := by decide +kernel
theorem dX12_coded_58 : decode cX12_coded 58 = .ok (.getfield 69, 3) := by decide +kernel
theorem dX12_coded_61 : decode cX12_coded 61 = .ok (.ifCond .ne 34, 3) := by decide +kernel
theorem dX12_coded_64 : decode cX12_coded 64 = .ok (.aload_n 0, 1) := by decide +kernel
theorem dX12_coded_65 : decode cX12_coded 65 = .ok (.iload 4, 2) := by decide +kernel
theorem dX12_coded_67 : decode cX12_coded 67 = .ok (.sipush 285, 3) := by decide +kernel
theorem dX12_coded_70 : decode cX12_coded 70 = .ok (.if_icmp .le 7, 3) := by decide +kernel
theorem dX12_coded_73 : decode cX12_coded 73 = .ok (.iconst 1, 1) := by decide +kernel
theorem dX12_coded_74 : decode cX12_coded 74 = .ok (.goto 4, 3) := by decide +kernel
theorem dX12_coded_77 : decode cX12_coded 77 = .ok (.iconst 0, 1) := by decide +kernel
theorem dX12_coded_78 : decode cX12_coded 78 = .ok (.putfield 69, 3) := by decide +kernel
theorem dX12_coded_81 : decode cX12_coded 81 = .ok (.aload_n 0, 1) := by decide +kernel
theorem dX12_coded_82 : decode cX12_coded 82 = .ok (.getfield 69, 3) := by decide +kernel
theorem dX12_coded_85 : decode cX12_coded 85 = .ok (.ifCond .ne 10, 3) := by decide +kernel
theorem dX12_coded_88 : decode cX12_coded 88 = .ok (.aload_n 0, 1) := by decide +kernel
theorem dX12_coded_89 : decode cX12_coded 89 = .ok (.iload 4, 2) := by decide +kernel
theorem dX12_coded_91 : decode cX12_coded 91 = .ok (.iload_n 2, 1) := by decide +kernel
theorem dX12_coded_92 : decode cX12_coded 92 = .ok (.invokevirtual 102, 3) := by decide +kernel
theorem dX12_coded_95 : decode cX12_coded 95 = .ok (.aload_n 0, 1) := by decide +kernel
theorem dX12_coded_96 : decode cX12_coded 96 = .ok (.getfield 69, 3) := by decide +kernel
theorem dX12_coded_99 : decode cX12_coded 99 = .ok (.ifCond .ne 15, 3) := by decide +kernel
theorem dX12_coded_102 : decode cX12_coded 102 = .ok (.iload 4, 2) := by decide +kernel
theorem dX12_coded_104 : decode cX12_coded 104 = .ok (.sipush 256, 3) := by decide +kernel
theorem dX12_coded_107 : decode cX12_coded 107 = .ok (.if_icmp .eq 7, 3) := by decide +kernel
theorem dX12_coded_110 : decode cX12_coded 110 = .ok (.iconst 1, 1) := by decide +kernel
theorem dX12_coded_111 : decode cX12_coded 111 = .ok (.goto 4, 3) := by decide +kernel
theorem dX12_coded_114 : decode cX12_coded 114 = .ok (.iconst 0, 1) := by decide +kernel
theorem dX12_coded_115 : decode cX12_coded 115 = .ok (.istore_n 3, 1) := by decide +kernel
theorem dX12_coded_116 : decode cX12_coded 116 = .ok (.goto (-103), 3) := by decide +kernel
theorem dX12_coded_119 : decode cX12_coded 119 = .ok (.return_, 1) := by decide +kernel
theorem dX12_plain_0 : decode cX12_plain 0 = .ok (.aload_n 0, 1) := by decide +kernel
theorem dX12_plain_1 : decode cX12_plain 1 = .ok (.invokevirtual 106, 3) := by decide +kernel
theorem dX12_plain_4 : decode cX12_plain 4 = .ok (.aload_n 0, 1) := by decide +kernel
theorem dX12_plain_5 : decode cX12_plain 5 = .ok (.bipush 16, 2) := by decide +kernel
theorem dX12_plain_7 : decode cX12_plain 7 = .ok (.invokevirtual 80, 3) := by decide +kernel
theorem dX12_plain_10 : decode cX12_plain 10 = .ok (.istore_n 1, 1) := by decide +kernel
theorem dX12_plain_11 : decode cX12_plain 11 = .ok (.aload_n 0, 1) := by decide +kernel
theorem dX12_plain_12 : decode cX12_plain 12 = .ok (.bipush 16, 2) := by decide +kernel
theorem dX12_plain_14 : decode cX12_plain 14 = .ok (.invokevirtual 80, 3) := by decide +kernel
theorem dX12_plain_17 : decode cX12_plain 17 = .ok (.istore_n 2, 1) := by decide +kernel
theorem dX12_plain_18 : decode cX12_plain 18 = .ok (.aload_n 0, 1) := by decide +kernel
theorem dX12_plain_19 : decode cX12_plain 19 = .ok (.aload_n 0, 1) := by decide +kernel
theorem dX12_plain_20 : decode cX12_plain 20 = .ok (.getfield 69, 3) := by decide +kernel
theorem dX12_plain_23 : decode cX12_plain 23 = .ok (.ifCond .ne 11, 3) := by decide +kernel
theorem dX12_plain_26 : decode cX12_plain 26 = .ok (.iload_n 1, 1) := by decide +kernel
theorem dX12_plain_27 : decode cX12_plain 27 = .ok (.iload_n 2, 1) := by decide +kernel
theorem dX12_plain_28 : decode cX12_plain 28 = .ok (.ixor, 1) := by decide +kernel
theorem dX12_plain_29 : decode cX12_plain 29 = .ok (.ldc 109, 2) := by decide +kernel
theorem dX12_plain_31 : decode cX12_plain 31 = .ok (.if_icmp .eq 7, 3) := by decide +kernel
theorem dX12_plain_34 : decode cX12_plain 34 = .ok (.iconst 1, 1) := by decide +kernel
theorem dX12_plain_35 : decode cX12_plain 35 = .ok (.goto 4, 3) := by decide +kernel
theorem dX12_plain_38 : decode cX12_plain 38 = .ok (.iconst 0, 1) := by decide +kernel
theorem dX12_plain_39 : decode cX12_plain 39 = .ok (.putfield 69, 3) := by decide +kernel
theorem dX12_plain_42 : decode cX12_plain 42 = .ok (.iconst 0, 1) := by decide +kernel
theorem dX12_plain_43 : decode cX12_plain 43 = .ok (.istore_n 3, 1) := by decide +kernel
theorem dX12_plain_44 : decode cX12_plain 44 = .ok (.iload_n 3, 1) := by decide +kernel
theorem dX12_plain_45 : decode cX12_plain 45 = .ok (.iload_n 1, 1) := by decide +kernel
theorem dX12_plain_46 : decode cX12_plain 46 = .ok (.if_icmp .ge 37, 3) := by decide +kernel
theorem dX12_plain_49 : decode cX12_plain 49 = .ok (.aload_n 0, 1) := by decide +kernel
theorem dX12_plain_50 : decode cX12_plain 50 = .ok (.getfield 69, 3) := by decide +kernel
theorem dX12_plain_53 : decode cX12_plain 53 = .ok (.ifCond .ne 30, 3) := by decide +kernel
theorem dX12_plain_56 : decode cX12_plain 56 = .ok (.aload_n 0, 1) := by decide +kernel
theorem dX12_plain_57 : decode cX12_plain 57 = .ok (.bipush 8, 2) := by decide +kernel
theorem dX12_plain_59 : decode cX12_plain 59 = .ok (.invokevirtual 80, 3) := by decide +kernel
theorem dX12_plain_62 : decode cX12_plain 62 = .ok (.istore 4, 2) := by decide +kernel
theorem dX12_plain_64 : decode cX12_plain 64 = .ok (.aload_n 0, 1) := by decide +kernel
theorem dX12_plain_65 : decode cX12_plain 65 = .ok (.getfield 69, 3) := by decide +kernel
theorem dX12_plain_68 : decode cX12_plain 68 = .ok (.ifCond .ne 9, 3) := by decide +kernel
theorem dX12_plain_71 : decode cX12_plain 71 = .ok (.aload_n 0, 1) := by decide +kernel
theorem dX12_plain_72 : decode cX12_plain 72 = .ok (.iload 4, 2) := by decide +kernel
theorem dX12_plain_74 : decode cX12_plain 74 = .ok (.invokevirtual 98, 3) := by decide +kernel
theorem dX12_plain_77 : decode cX12_plain 77 = .ok (.iinc 3 1, 3) := by decide +kernel
theorem dX12_plain_80 : decode cX12_plain 80 = .ok (.goto (-36), 3) := by decide +kernel
theorem dX12_plain_83 : decode cX12_plain 83 = .ok (.return_, 1) := by decide +kernel
theorem dX12_fixed_0 : decode cX12_fixed 0 = .ok (.iconst 0, 1) := by decide +kernel
theorem dX12_fixed_1 : decode cX12_fixed 1 = .ok (.istore_n 1, 1) := by decide +kernel
theorem dX12_fixed_2 : decode cX12_fixed 2 = .ok (.iload_n 1, 1) := by decide +kernel
theorem dX12_fixed_3 : decode cX12_fixed 3 = .ok (.sipush 288, 3) := by decide +kernel
theorem dX12_fixed_6 : decode cX12_fixed 6 = .ok (.if_icmp .ge 53, 3) := by decide +kernel
theorem dX12_fixed_9 : decode cX12_fixed 9 = .ok (.aload_n 0, 1) := by decide +kernel
theorem dX12_fixed_10 : decode cX12_fixed 10 = .ok (.getfield 42, 3) := by decide +kernel
theorem dX12_fixed_13 : decode cX12_fixed 13 = .ok (.iload_n 1, 1) := by decide +kernel
theorem dX12_fixed_14 : decode cX12_fixed 14 = .ok (.iload_n 1, 1) := by decide +kernel
theorem dX12_fixed_15 : decode cX12_fixed 15 = .ok (.sipush 144, 3) := by decide +kernel
theorem dX12_fixed_18 : decode cX12_fixed 18 = .ok (.if_icmp .ge 8, 3) := by decide +kernel
theorem dX12_fixed_21 : decode cX12_fixed 21 = .ok (.bipush 8, 2) := by decide +kernel
theorem dX12_fixed_23 : decode cX12_fixed 23 = .ok (.goto 29, 3) := by decide +kernel
theorem dX12_fixed_26 : decode cX12_fixed 26 = .ok (.iload_n 1, 1) := by decide +kernel
theorem dX12_fixed_27 : decode cX12_fixed 27 = .ok (.sipush 256, 3) := by decide +kernel
theorem dX12_fixed_30 : decode cX12_fixed 30 = .ok (.if_icmp .ge 8, 3) := by decide +kernel
theorem dX12_fixed_33 : decode cX12_fixed 33 = .ok (.bipush 9, 2) := by decide +kernel
theorem dX12_fixed_35 : decode cX12_fixed 35 = .ok (.goto 17, 3) := by decide +kernel
theorem dX12_fixed_38 : decode cX12_fixed 38 = .ok (.iload_n 1, 1) := by decide +kernel
theorem dX12_fixed_39 : decode cX12_fixed 39 = .ok (.sipush 280, 3) := by decide +kernel
theorem dX12_fixed_42 : decode cX12_fixed 42 = .ok (.if_icmp .ge 8, 3) := by decide +kernel
theorem dX12_fixed_45 : decode cX12_fixed 45 = .ok (.bipush 7, 2) := by decide +kernel
theorem dX12_fixed_47 : decode cX12_fixed 47 = .ok (.goto 5, 3) := by decide +kernel
theorem dX12_fixed_50 : decode cX12_fixed 50 = .ok (.bipush 8, 2) := by decide +kernel
theorem dX12_fixed_52 : decode cX12_fixed 52 = .ok (.iastore, 1) := by decide +kernel
theorem dX12_fixed_53 : decode cX12_fixed 53 = .ok (.iinc 1 1, 3) := by decide +kernel
theorem dX12_fixed_56 : decode cX12_fixed 56 = .ok (.goto (-54), 3) := by decide +kernel
theorem dX12_fixed_59 : decode cX12_fixed 59 = .ok (.iconst 0, 1) := by decide +kernel
theorem dX12_fixed_60 : decode cX12_fixed 60 = .ok (.istore_n 1, 1) := by decide +kernel
theorem dX12_fixed_61 : decode cX12_fixed 61 = .ok (.iload_n 1, 1) := by decide +kernel
theorem dX12_fixed_62 : decode cX12_fixed 62 = .ok (.bipush 32, 2) := by decide +kernel
theorem dX12_fixed_64 : decode cX12_fixed 64 = .ok (.if_icmp .ge 20, 3) := by decide +kernel
theorem dX12_fixed_67 : decode cX12_fixed 67 = .ok (.aload_n 0, 1) := by decide +kernel
theorem dX12_fixed_68 : decode cX12_fixed 68 = .ok (.getfield 42, 3) := by decide +kernel
theorem dX12_fixed_71 : decode cX12_fixed 71 = .ok (.sipush 320, 3) := by decide +kernel
theorem dX12_fixed_74 : decode cX12_fixed 74 = .ok (.iload_n 1, 1) := by decide +kernel
theorem dX12_fixed_75 : decode cX12_fixed 75 = .ok (.iadd, 1) := by decide +kernel
theorem dX12_fixed_76 : decode cX12_fixed 76 = .ok (.iconst 5, 1) := by decide +kernel
theorem dX12_fixed_77 : decode cX12_fixed 77 = .ok (.iastore, 1) := by decide +kernel
theorem dX12_fixed_78 : decode cX12_fixed 78 = .ok (.iinc 1 1, 3) := by decide +kernel
theorem dX12_fixed_81 : decode cX12_fixed 81 = .ok (.goto (-20), 3) := by decide +kernel
theorem dX12_fixed_84 : decode cX12_fixed 84 = .ok (.aload_n 0, 1) := by decide +kernel
theorem dX12_fixed_85 : decode cX12_fixed 85 = .ok (.iconst 0, 1) := by decide +kernel
theorem dX12_fixed_86 : decode cX12_fixed 86 = .ok (.sipush 288, 3) := by decide +kernel
theorem dX12_fixed_89 : decode cX12_fixed 89 = .ok (.iconst 0, 1) := by decide +kernel
theorem dX12_fixed_90 : decode cX12_fixed 90 = .ok (.invokevirtual 110, 3) := by decide +kernel
theorem dX12_fixed_93 : decode cX12_fixed 93 = .ok (.aload_n 0, 1) := by decide +kernel
theorem dX12_fixed_94 : decode cX12_fixed 94 = .ok (.sipush 320, 3) := by decide +kernel
theorem dX12_fixed_97 : decode cX12_fixed 97 = .ok (.bipush 32, 2) := by decide +kernel
theorem dX12_fixed_99 : decode cX12_fixed 99 = .ok (.iconst 0, 1) := by decide +kernel
theorem dX12_fixed_100 : decode cX12_fixed 100 = .ok (.invokevirtual 110, 3) := by decide +kernel
theorem dX12_fixed_103 : decode cX12_fixed 103 = .ok (.aload_n 0, 1) := by decide +kernel
theorem dX12_fixed_104 : decode cX12_fixed 104 = .ok (.sipush 288, 3) := by decide +kernel
theorem dX12_fixed_107 : decode cX12_fixed 107 = .ok (.bipush 32, 2) := by decide +kernel
theorem dX12_fixed_109 : decode cX12_fixed 109 = .ok (.invokevirtual 114, 3) := by decide +kernel
theorem dX12_fixed_112 : decode cX12_fixed 112 = .ok (.return_, 1) := by decide +kernel
theorem dX12_orderOf_0 : decode cX12_orderOf 0 = .ok (.iload_n 0, 1) := by decide +kernel
theorem dX12_orderOf_1 : decode cX12_orderOf 1 = .ok (.tableswitch 42 0 3 #[31, 34, 37, 40], 31) := by decide +kernel
theorem dX12_orderOf_32 : decode cX12_orderOf 32 = .ok (.bipush 16, 2) := by decide +kernel
theorem dX12_orderOf_34 : decode cX12_orderOf 34 = .ok (.ireturn, 1) := by decide +kernel
theorem dX12_orderOf_35 : decode cX12_orderOf 35 = .ok (.bipush 17, 2) := by decide +kernel
theorem dX12_orderOf_37 : decode cX12_orderOf 37 = .ok (.ireturn, 1) := by decide +kernel
theorem dX12_orderOf_38 : decode cX12_orderOf 38 = .ok (.bipush 18, 2) := by decide +kernel
theorem dX12_orderOf_40 : decode cX12_orderOf 40 = .ok (.ireturn, 1) := by decide +kernel
theorem dX12_orderOf_41 : decode cX12_orderOf 41 = .ok (.iconst 0, 1) := by decide +kernel
theorem dX12_orderOf_42 : decode cX12_orderOf 42 = .ok (.ireturn, 1) := by decide +kernel
theorem dX12_orderOf_43 : decode cX12_orderOf 43 = .ok (.iload_n 0, 1) := by decide +kernel
theorem dX12_orderOf_44 : decode cX12_orderOf 44 = .ok (.iconst 2, 1) := by decide +kernel
theorem dX12_orderOf_45 : decode cX12_orderOf 45 = .ok (.irem, 1) := by decide +kernel
theorem dX12_orderOf_46 : decode cX12_orderOf 46 = .ok (.ifCond .ne 14, 3) := by decide +kernel
theorem dX12_orderOf_49 : decode cX12_orderOf 49 = .ok (.bipush 8, 2) := by decide +kernel
theorem dX12_orderOf_51 : decode cX12_orderOf 51 = .ok (.iload_n 0, 1) := by decide +kernel
theorem dX12_orderOf_52 : decode cX12_orderOf 52 = .ok (.iconst 4, 1) := by decide +kernel
theorem dX12_orderOf_53 : decode cX12_orderOf 53 = .ok (.isub, 1) := by decide +kernel
theorem dX12_orderOf_54 : decode cX12_orderOf 54 = .ok (.iconst 2, 1) := by decide +kernel
theorem dX12_orderOf_55 : decode cX12_orderOf 55 = .ok (.idiv, 1) := by decide +kernel
theorem dX12_orderOf_56 : decode cX12_orderOf 56 = .ok (.iadd, 1) := by decide +kernel
theorem dX12_orderOf_57 : decode cX12_orderOf 57 = .ok (.goto 11, 3) := by decide +kernel
theorem dX12_orderOf_60 : decode cX12_orderOf 60 = .ok (.bipush 7, 2) := by decide +kernel
theorem dX12_orderOf_62 : decode cX12_orderOf 62 = .ok (.iload_n 0, 1) := by decide +kernel
theorem dX12_orderOf_63 : decode cX12_orderOf 63 = .ok (.iconst 5, 1) := by decide +kernel
theorem dX12_orderOf_64 : decode cX12_orderOf 64 = .ok (.isub, 1) := by decide +kernel
theorem dX12_orderOf_65 : decode cX12_orderOf 65 = .ok (.iconst 2, 1) := by decide +kernel
theorem dX12_orderOf_66 : decode cX12_orderOf 66 = .ok (.idiv, 1) := by decide +kernel
theorem dX12_orderOf_67 : decode cX12_orderOf 67 = .ok (.isub, 1) := by decide +kernel
theorem dX12_orderOf_68 : decode cX12_orderOf 68 = .ok (.ireturn, 1) := by decide +kernel
theorem dX12_told_0 : decode cX12_told 0 = .ok (.aload_n 0, 1) := by decide +kernel
theorem dX12_told_1 : decode cX12_told 1 = .ok (.iconst 5, 1) := by decide +kernel
theorem dX12_told_2 : decode cX12_told 2 = .ok (.invokevirtual 80, 3) := by decide +kernel
theorem dX12_told_5 : decode cX12_told 5 = .ok (.sipush 257, 3) := by decide +kernel
theorem dX12_told_8 : decode cX12_told 8 = .ok (.iadd, 1) := by decide +kernel
theorem dX12_told_9 : decode cX12_told 9 = .ok (.istore_n 1, 1) := by decide +kernel
theorem dX12_told_10 : decode cX12_told 10 = .ok (.aload_n 0, 1) := by decide +kernel
theorem dX12_told_11 : decode cX12_told 11 = .ok (.iconst 5, 1) := by decide +kernel
theorem dX12_told_12 : decode cX12_told 12 = .ok (.invokevirtual 80, 3) := by decide +kernel
theorem dX12_told_15 : decode cX12_told 15 = .ok (.iconst 1, 1) := by decide +kernel
theorem dX12_told_16 : decode cX12_told 16 = .ok (.iadd, 1) := by decide +kernel
theorem dX12_told_17 : decode cX12_told 17 = .ok (.istore_n 2, 1) := by decide +kernel
theorem dX12_told_18 : decode cX12_told 18 = .ok (.aload_n 0, 1) := by decide +kernel
theorem dX12_told_19 : decode cX12_told 19 = .ok (.iconst 4, 1) := by decide +kernel
theorem dX12_told_20 : decode cX12_told 20 = .ok (.invokevirtual 80, 3) := by decide +kernel
theorem dX12_told_23 : decode cX12_told 23 = .ok (.iconst 4, 1) := by decide +kernel
theorem dX12_told_24 : decode cX12_told 24 = .ok (.iadd, 1) := by decide +kernel
theorem dX12_told_25 : decode cX12_told 25 = .ok (.istore_n 3, 1) := by decide +kernel
theorem dX12_told_26 : decode cX12_told 26 = .ok (.aload_n 0, 1) := by decide +kernel
theorem dX12_told_27 : decode cX12_told 27 = .ok (.aload_n 0, 1) := by decide +kernel
theorem dX12_told_28 : decode cX12_told 28 = .ok (.getfield 69, 3) := by decide +kernel
theorem dX12_told_31 : decode cX12_told 31 = .ok (.ifCond .ne 16, 3) := by decide +kernel
theorem dX12_told_34 : decode cX12_told 34 = .ok (.iload_n 1, 1) := by decide +kernel
theorem dX12_told_35 : decode cX12_told 35 = .ok (.sipush 286, 3) := by decide +kernel
theorem dX12_told_38 : decode cX12_told 38 = .ok (.if_icmp .gt 9, 3) := by decide +kernel
theorem dX12_told_41 : decode cX12_told 41 = .ok (.iload_n 2, 1) := by decide +kernel
theorem dX12_told_42 : decode cX12_told 42 = .ok (.bipush 30, 2) := by decide +kernel
theorem dX12_told_44 : decode cX12_told 44 = .ok (.if_icmp .le 7, 3) := by decide +kernel
theorem dX12_told_47 : decode cX12_told 47 = .ok (.iconst 1, 1) := by decide +kernel
theorem dX12_told_48 : decode cX12_told 48 = .ok (.goto 4, 3) := by decide +kernel
theorem dX12_told_51 : decode cX12_told 51 = .ok (.iconst 0, 1) := by decide +kernel
theorem dX12_told_52 : decode cX12_told 52 = .ok (.putfield 69, 3) := by decide +kernel
theorem dX12_told_55 : decode cX12_told 55 = .ok (.iconst 0, 1) := by decide +kernel
theorem dX12_told_56 : decode cX12_told 56 = .ok (.istore 4, 2) := by decide +kernel
theorem dX12_told_58 : decode cX12_told 58 = .ok (.iload 4, 2) := by decide +kernel
theorem dX12_told_60 : decode cX12_told 60 = .ok (.bipush 19, 2) := by decide +kernel
theorem dX12_told_62 : decode cX12_told 62 = .ok (.if_icmp .ge 21, 3) := by decide +kernel
theorem dX12_told_65 : decode cX12_told 65 = .ok (.aload_n 0, 1) := by decide +kernel
theorem dX12_told_66 : decode cX12_told 66 = .ok (.getfield 42, 3) := by decide +kernel
theorem dX12_told_69 : decode cX12_told 69 = .ok (.sipush 352, 3) := by decide +kernel
theorem dX12_told_72 : decode cX12_told 72 = .ok (.iload 4, 2) := by decide +kernel
theorem dX12_told_74 : decode cX12_told 74 = .ok (.iadd, 1) := by decide +kernel
theorem dX12_told_75 : decode cX12_told 75 = .ok (.iconst 0, 1) := by decide +kernel
theorem dX12_told_76 : decode cX12_told 76 = .ok (.iastore, 1) := by decide +kernel
theorem dX12_told_77 : decode cX12_told 77 = .ok (.iinc 4 1, 3) := by decide +kernel
theorem dX12_told_80 : decode cX12_told 80 = .ok (.goto (-22), 3) := by decide +kernel
theorem dX12_told_83 : decode cX12_told 83 = .ok (.iconst 0, 1) := by decide +kernel
theorem dX12_told_84 : decode cX12_told 84 = .ok (.istore 4, 2) := by decide +kernel
theorem dX12_told_86 : decode cX12_told 86 = .ok (.iload 4, 2) := by decide +kernel
theorem dX12_told_88 : decode cX12_told 88 = .ok (.iload_n 3, 1) := by decide +kernel
theorem dX12_told_89 : decode cX12_told 89 = .ok (.if_icmp .ge 35, 3) := by decide +kernel
theorem dX12_told_92 : decode cX12_told 92 = .ok (.aload_n 0, 1) := by decide +kernel
theorem dX12_told_93 : decode cX12_told 93 = .ok (.getfield 69, 3) := by decide +kernel
theorem dX12_told_96 : decode cX12_told 96 = .ok (.ifCond .ne 28, 3) := by decide +kernel
theorem dX12_told_99 : decode cX12_told 99 = .ok (.aload_n 0, 1) := by decide +kernel
theorem dX12_told_100 : decode cX12_told 100 = .ok (.getfield 42, 3) := by decide +kernel
theorem dX12_told_103 : decode cX12_told 103 = .ok (.sipush 352, 3) := by decide +kernel
theorem dX12_told_106 : decode cX12_told 106 = .ok (.iload 4, 2) := by decide +kernel
theorem dX12_told_108 : decode cX12_told 108 = .ok (.invokestatic 117, 3) := by decide +kernel
theorem dX12_told_111 : decode cX12_told 111 = .ok (.iadd, 1) := by decide +kernel
theorem dX12_told_112 : decode cX12_told 112 = .ok (.aload_n 0, 1) := by decide +kernel
theorem dX12_told_113 : decode cX12_told 113 = .ok (.iconst 3, 1) := by decide +kernel
theorem dX12_told_114 : decode cX12_told 114 = .ok (.invokevirtual 80, 3) := by decide +kernel
theorem dX12_told_117 : decode cX12_told 117 = .ok (.iastore, 1) := by decide +kernel
theorem dX12_told_118 : decode cX12_told 118 = .ok (.iinc 4 1, 3) := by decide +kernel
theorem dX12_told_121 : decode cX12_told 121 = .ok (.goto (-35), 3) := by decide +kernel
theorem dX12_told_124 : decode cX12_told 124 = .ok (.aload_n 0, 1) := by decide +kernel
theorem dX12_told_125 : decode cX12_told 125 = .ok (.sipush 352, 3) := by decide +kernel
theorem dX12_told_128 : decode cX12_told 128 = .ok (.bipush 19, 2) := by decide +kernel
theorem dX12_told_130 : decode cX12_told 130 = .ok (.iconst 0, 1) := by decide +kernel
theorem dX12_told_131 : decode cX12_told 131 = .ok (.invokevirtual 110, 3) := by decide +kernel
theorem dX12_told_134 : decode cX12_told 134 = .ok (.iconst 0, 1) := by decide +kernel
theorem dX12_told_135 : decode cX12_told 135 = .ok (.istore 4, 2) := by decide +kernel
theorem dX12_told_137 : decode cX12_told 137 = .ok (.iconst (-1), 1) := by decide +kernel
theorem dX12_told_138 : decode cX12_told 138 = .ok (.istore 5, 2) := by decide +kernel
theorem dX12_told_140 : decode cX12_told 140 = .ok (.iload 4, 2) := by decide +kernel
theorem dX12_told_142 : decode cX12_told 142 = .ok (.iload_n 1, 1) := by decide +kernel
theorem dX12_told_143 : decode cX12_told 143 = .ok (.iload_n 2, 1) := by decide +kernel
theorem dX12_told_144 : decode cX12_told 144 = .ok (.iadd, 1) := by decide +kernel
theorem dX12_told_145 : decode cX12_told 145 = .ok (.if_icmp .ge 195, 3) := by decide +kernel
theorem dX12_told_148 : decode cX12_told 148 = .ok (.aload_n 0, 1) := by decide +kernel
theorem dX12_told_149 : decode cX12_told 149 = .ok (.getfield 69, 3) := by decide +kernel
theorem dX12_told_152 : decode cX12_told 152 = .ok (.ifCond .ne 188, 3) := by decide +kernel
theorem dX12_told_155 : decode cX12_told 155 = .ok (.aload_n 0, 1) := by decide +kernel
theorem dX12_told_156 : decode cX12_told 156 = .ok (.sipush 352, 3) := by decide +kernel
theorem dX12_told_159 : decode cX12_told 159 = .ok (.bipush 19, 2) := by decide +kernel
theorem dX12_told_161 : decode cX12_told 161 = .ok (.invokevirtual 92, 3) := by decide +kernel
theorem dX12_told_164 : decode cX12_told 164 = .ok (.istore 6, 2) := by decide +kernel
theorem dX12_told_166 : decode cX12_told 166 = .ok (.iload 6, 2) := by decide +kernel
theorem dX12_told_168 : decode cX12_told 168 = .ok (.bipush 16, 2) := by decide +kernel
theorem dX12_told_170 : decode cX12_told 170 = .ok (.if_icmp .ge 8, 3) := by decide +kernel
theorem dX12_told_173 : decode cX12_told 173 = .ok (.iload 6, 2) := by decide +kernel
theorem dX12_told_175 : decode cX12_told 175 = .ok (.goto 16, 3) := by decide +kernel
theorem dX12_told_178 : decode cX12_told 178 = .ok (.iload 6, 2) := by decide +kernel
theorem dX12_told_180 : decode cX12_told 180 = .ok (.bipush 16, 2) := by decide +kernel
theorem dX12_told_182 : decode cX12_told 182 = .ok (.if_icmp .ne 8, 3) := by decide +kernel
theorem dX12_told_185 : decode cX12_told 185 = .ok (.iload 5, 2) := by decide +kernel
theorem dX12_told_187 : decode cX12_told 187 = .ok (.goto 4, 3) := by decide +kernel
theorem dX12_told_190 : decode cX12_told 190 = .ok (.iconst 0, 1) := by decide +kernel
theorem dX12_told_191 : decode cX12_told 191 = .ok (.istore 7, 2) := by decide +kernel
theorem dX12_told_193 : decode cX12_told 193 = .ok (.iload 6, 2) := by decide +kernel
theorem dX12_told_195 : decode cX12_told 195 = .ok (.bipush 16, 2) := by decide +kernel
theorem dX12_told_197 : decode cX12_told 197 = .ok (.if_icmp .ge 7, 3) := by decide +kernel
theorem dX12_told_200 : decode cX12_told 200 = .ok (.iconst 1, 1) := by decide +kernel
theorem dX12_told_201 : decode cX12_told 201 = .ok (.goto 46, 3) := by decide +kernel
theorem dX12_told_204 : decode cX12_told 204 = .ok (.iload 6, 2) := by decide +kernel
theorem dX12_told_206 : decode cX12_told 206 = .ok (.bipush 16, 2) := by decide +kernel
theorem dX12_told_208 : decode cX12_told 208 = .ok (.if_icmp .ne 13, 3) := by decide +kernel
theorem dX12_told_211 : decode cX12_told 211 = .ok (.iconst 3, 1) := by decide +kernel
theorem dX12_told_212 : decode cX12_told 212 = .ok (.aload_n 0, 1) := by decide +kernel
theorem dX12_told_213 : decode cX12_told 213 = .ok (.iconst 2, 1) := by decide +kernel
theorem dX12_told_214 : decode cX12_told 214 = .ok (.invokevirtual 80, 3) := by decide +kernel
theorem dX12_told_217 : decode cX12_told 217 = .ok (.iadd, 1) := by decide +kernel
theorem dX12_told_218 : decode cX12_told 218 = .ok (.goto 29, 3) := by decide +kernel
theorem dX12_told_221 : decode cX12_told 221 = .ok (.iload 6, 2) := by decide +kernel
theorem dX12_told_223 : decode cX12_told 223 = .ok (.bipush 17, 2) := by decide +kernel
theorem dX12_told_225 : decode cX12_told 225 = .ok (.if_icmp .ne 13, 3) := by decide +kernel
theorem dX12_told_228 : decode cX12_told 228 = .ok (.iconst 3, 1) := by decide +kernel
theorem dX12_told_229 : decode cX12_told 229 = .ok (.aload_n 0, 1) := by decide +kernel
theorem dX12_told_230 : decode cX12_told 230 = .ok (.iconst 3, 1) := by decide +kernel
theorem dX12_told_231 : decode cX12_told 231 = .ok (.invokevirtual 80, 3) := by decide +kernel
theorem dX12_told_234 : decode cX12_told 234 = .ok (.iadd, 1) := by decide +kernel
theorem dX12_told_235 : decode cX12_told 235 = .ok (.goto 12, 3) := by decide +kernel
theorem dX12_told_238 : decode cX12_told 238 = .ok (.bipush 11, 2) := by decide +kernel
theorem dX12_told_240 : decode cX12_told 240 = .ok (.aload_n 0, 1) := by decide +kernel
theorem dX12_told_241 : decode cX12_told 241 = .ok (.bipush 7, 2) := by decide +kernel
theorem dX12_told_243 : decode cX12_told 243 = .ok (.invokevirtual 80, 3) := by decide +kernel
theorem dX12_told_246 : decode cX12_told 246 = .ok (.iadd, 1) := by decide +kernel
theorem dX12_told_247 : decode cX12_told 247 = .ok (.istore 8, 2) := by decide +kernel
theorem dX12_told_249 : decode cX12_told 249 = .ok (.aload_n 0, 1) := by decide +kernel
theorem dX12_told_250 : decode cX12_told 250 = .ok (.aload_n 0, 1) := by decide +kernel
theorem dX12_told_251 : decode cX12_told 251 = .ok (.getfield 69, 3) := by decide +kernel
theorem dX12_told_254 : decode cX12_told 254 = .ok (.ifCond .ne 19, 3) := by decide +kernel
theorem dX12_told_257 : decode cX12_told 257 = .ok (.iload 7, 2) := by decide +kernel
theorem dX12_told_259 : decode cX12_told 259 = .ok (.ifCond .lt 14, 3) := by decide +kernel
theorem dX12_told_262 : decode cX12_told 262 = .ok (.iload 4, 2) := by decide +kernel
theorem dX12_told_264 : decode cX12_told 264 = .ok (.iload 8, 2) := by decide +kernel
theorem dX12_told_266 : decode cX12_told 266 = .ok (.iadd, 1) := by decide +kernel
theorem dX12_told_267 : decode cX12_told 267 = .ok (.iload_n 1, 1) := by decide +kernel
theorem dX12_told_268 : decode cX12_told 268 = .ok (.iload_n 2, 1) := by decide +kernel
theorem dX12_told_269 : decode cX12_told 269 = .ok (.iadd, 1) := by decide +kernel
theorem dX12_told_270 : decode cX12_told 270 = .ok (.if_icmp .le 7, 3) := by decide +kernel
theorem dX12_told_273 : decode cX12_told 273 = .ok (.iconst 1, 1) := by decide +kernel
theorem dX12_told_274 : decode cX12_told 274 = .ok (.goto 4, 3) := by decide +kernel
theorem dX12_told_277 : decode cX12_told 277 = .ok (.iconst 0, 1) := by decide +kernel
theorem dX12_told_278 : decode cX12_told 278 = .ok (.putfield 69, 3) := by decide +kernel
theorem dX12_told_281 : decode cX12_told 281 = .ok (.iconst 0, 1) := by decide +kernel
theorem dX12_told_282 : decode cX12_told 282 = .ok (.istore 9, 2) := by decide +kernel
theorem dX12_told_284 : decode cX12_told 284 = .ok (.iload 9, 2) := by decide +kernel
theorem dX12_told_286 : decode cX12_told 286 = .ok (.iload 8, 2) := by decide +kernel
theorem dX12_told_288 : decode cX12_told 288 = .ok (.if_icmp .ge 45, 3) := by decide +kernel
theorem dX12_told_291 : decode cX12_told 291 = .ok (.aload_n 0, 1) := by decide +kernel
theorem dX12_told_292 : decode cX12_told 292 = .ok (.getfield 69, 3) := by decide +kernel
theorem dX12_told_295 : decode cX12_told 295 = .ok (.ifCond .ne 38, 3) := by decide +kernel
theorem dX12_told_298 : decode cX12_told 298 = .ok (.aload_n 0, 1) := by decide +kernel
theorem dX12_told_299 : decode cX12_told 299 = .ok (.getfield 42, 3) := by decide +kernel
theorem dX12_told_302 : decode cX12_told 302 = .ok (.iload 4, 2) := by decide +kernel
theorem dX12_told_304 : decode cX12_told 304 = .ok (.iload_n 1, 1) := by decide +kernel
theorem dX12_told_305 : decode cX12_told 305 = .ok (.if_icmp .ge 8, 3) := by decide +kernel
theorem dX12_told_308 : decode cX12_told 308 = .ok (.iload 4, 2) := by decide +kernel
theorem dX12_told_310 : decode cX12_told 310 = .ok (.goto 11, 3) := by decide +kernel
theorem dX12_told_313 : decode cX12_told 313 = .ok (.sipush 320, 3) := by decide +kernel
theorem dX12_told_316 : decode cX12_told 316 = .ok (.iload 4, 2) := by decide +kernel
theorem dX12_told_318 : decode cX12_told 318 = .ok (.iadd, 1) := by decide +kernel
theorem dX12_told_319 : decode cX12_told 319 = .ok (.iload_n 1, 1) := by decide +kernel
theorem dX12_told_320 : decode cX12_told 320 = .ok (.isub, 1) := by decide +kernel
theorem dX12_told_321 : decode cX12_told 321 = .ok (.iload 7, 2) := by decide +kernel
theorem dX12_told_323 : decode cX12_told 323 = .ok (.iastore, 1) := by decide +kernel
theorem dX12_told_324 : decode cX12_told 324 = .ok (.iinc 4 1, 3) := by decide +kernel
theorem dX12_told_327 : decode cX12_told 327 = .ok (.iinc 9 1, 3) := by decide +kernel
theorem dX12_told_330 : decode cX12_told 330 = .ok (.goto (-46), 3) := by decide +kernel
theorem dX12_told_333 : decode cX12_told 333 = .ok (.iload 7, 2) := by decide +kernel
theorem dX12_told_335 : decode cX12_told 335 = .ok (.istore 5, 2) := by decide +kernel
theorem dX12_told_337 : decode cX12_told 337 = .ok (.goto (-197), 3) := by decide +kernel
theorem dX12_told_340 : decode cX12_told 340 = .ok (.aload_n 0, 1) := by decide +kernel
theorem dX12_told_341 : decode cX12_told 341 = .ok (.aload_n 0, 1) := by decide +kernel
theorem dX12_told_342 : decode cX12_told 342 = .ok (.getfield 69, 3) := by decide +kernel
theorem dX12_told_345 : decode cX12_told 345 = .ok (.ifCond .ne 14, 3) := by decide +kernel
theorem dX12_told_348 : decode cX12_told 348 = .ok (.aload_n 0, 1) := by decide +kernel
theorem dX12_told_349 : decode cX12_told 349 = .ok (.getfield 42, 3) := by decide +kernel
theorem dX12_told_352 : decode cX12_told 352 = .ok (.sipush 256, 3) := by decide +kernel
theorem dX12_told_355 : decode cX12_told 355 = .ok (.iaload, 1) := by decide +kernel
theorem dX12_told_356 : decode cX12_told 356 = .ok (.ifCond .ne 7, 3) := by decide +kernel
theorem dX12_told_359 : decode cX12_told 359 = .ok (.iconst 1, 1) := by decide +kernel
theorem dX12_told_360 : decode cX12_told 360 = .ok (.goto 4, 3) := by decide +kernel
theorem dX12_told_363 : decode cX12_told 363 = .ok (.iconst 0, 1) := by decide +kernel
theorem dX12_told_364 : decode cX12_told 364 = .ok (.putfield 69, 3) := by decide +kernel
theorem dX12_told_367 : decode cX12_told 367 = .ok (.aload_n 0, 1) := by decide +kernel
theorem dX12_told_368 : decode cX12_told 368 = .ok (.getfield 69, 3) := by decide +kernel
theorem dX12_told_371 : decode cX12_told 371 = .ok (.ifCond .ne 25, 3) := by decide +kernel
theorem dX12_told_374 : decode cX12_told 374 = .ok (.aload_n 0, 1) := by decide +kernel
theorem dX12_told_375 : decode cX12_told 375 = .ok (.iconst 0, 1) := by decide +kernel
theorem dX12_told_376 : decode cX12_told 376 = .ok (.iload_n 1, 1) := by decide +kernel
theorem dX12_told_377 : decode cX12_told 377 = .ok (.iconst 0, 1) := by decide +kernel
theorem dX12_told_378 : decode cX12_told 378 = .ok (.invokevirtual 110, 3) := by decide +kernel
theorem dX12_told_381 : decode cX12_told 381 = .ok (.aload_n 0, 1) := by decide +kernel
theorem dX12_told_382 : decode cX12_told 382 = .ok (.sipush 320, 3) := by decide +kernel
theorem dX12_told_385 : decode cX12_told 385 = .ok (.iload_n 2, 1) := by decide +kernel
theorem dX12_told_386 : decode cX12_told 386 = .ok (.iconst 1, 1) := by decide +kernel
theorem dX12_told_387 : decode cX12_told 387 = .ok (.invokevirtual 110, 3) := by decide +kernel
theorem dX12_told_390 : decode cX12_told 390 = .ok (.aload_n 0, 1) := by decide +kernel
theorem dX12_told_391 : decode cX12_told 391 = .ok (.iload_n 1, 1) := by decide +kernel
theorem dX12_told_392 : decode cX12_told 392 = .ok (.iload_n 2, 1) := by decide +kernel
theorem dX12_told_393 : decode cX12_told 393 = .ok (.invokevirtual 114, 3) := by decide +kernel
theorem dX12_told_396 : decode cX12_told 396 = .ok (.return_, 1) := by decide +kernel
theorem dX12_unpack_0 : decode cX12_unpack 0 = .ok (.aload_n 0, 1) := by decide +kernel
theorem dX12_unpack_1 : decode cX12_unpack 1 = .ok (.iconst 2, 1) := by decide +kernel
theorem dX12_unpack_2 : decode cX12_unpack 2 = .ok (.putfield 63, 3) := by decide +kernel
theorem dX12_unpack_5 : decode cX12_unpack 5 = .ok (.aload_n 0, 1) := by decide +kernel
theorem dX12_unpack_6 : decode cX12_unpack 6 = .ok (.iconst 0, 1) := by decide +kernel
theorem dX12_unpack_7 : decode cX12_unpack 7 = .ok (.putfield 73, 3) := by decide +kernel
theorem dX12_unpack_10 : decode cX12_unpack 10 = .ok (.aload_n 0, 1) := by decide +kernel
theorem dX12_unpack_11 : decode cX12_unpack 11 = .ok (.aload_n 0, 1) := by decide +kernel
theorem dX12_unpack_12 : decode cX12_unpack 12 = .ok (.getfield 66, 3) := by decide +kernel
theorem dX12_unpack_15 : decode cX12_unpack 15 = .ok (.iconst 2, 1) := by decide +kernel
theorem dX12_unpack_16 : decode cX12_unpack 16 = .ok (.if_icmp .lt 48, 3) := by decide +kernel
theorem dX12_unpack_19 : decode cX12_unpack 19 = .ok (.aload_n 0, 1) := by decide +kernel
theorem dX12_unpack_20 : decode cX12_unpack 20 = .ok (.getfield 36, 3) := by decide +kernel
theorem dX12_unpack_23 : decode cX12_unpack 23 = .ok (.iconst 0, 1) := by decide +kernel
theorem dX12_unpack_24 : decode cX12_unpack 24 = .ok (.baload, 1) := by decide +kernel
theorem dX12_unpack_25 : decode cX12_unpack 25 = .ok (.bipush 120, 2) := by decide +kernel
theorem dX12_unpack_27 : decode cX12_unpack 27 = .ok (.if_icmp .ne 37, 3) := by decide +kernel
theorem dX12_unpack_30 : decode cX12_unpack 30 = .ok (.sipush 30720, 3) := by decide +kernel
theorem dX12_unpack_33 : decode cX12_unpack 33 = .ok (.aload_n 0, 1) := by decide +kernel
theorem dX12_unpack_34 : decode cX12_unpack 34 = .ok (.getfield 36, 3) := by decide +kernel
theorem dX12_unpack_37 : decode cX12_unpack 37 = .ok (.iconst 1, 1) := by decide +kernel
theorem dX12_unpack_38 : decode cX12_unpack 38 = .ok (.baload, 1) := by decide +kernel
theorem dX12_unpack_39 : decode cX12_unpack 39 = .ok (.sipush 255, 3) := by decide +kernel
theorem dX12_unpack_42 : decode cX12_unpack 42 = .ok (.iand, 1) := by decide +kernel
theorem dX12_unpack_43 : decode cX12_unpack 43 = .ok (.iadd, 1) := by decide +kernel
theorem dX12_unpack_44 : decode cX12_unpack 44 = .ok (.bipush 31, 2) := by decide +kernel
theorem dX12_unpack_46 : decode cX12_unpack 46 = .ok (.irem, 1) := by decide +kernel
theorem dX12_unpack_47 : decode cX12_unpack 47 = .ok (.ifCond .ne 17, 3) := by decide +kernel
theorem dX12_unpack_50 : decode cX12_unpack 50 = .ok (.aload_n 0, 1) := by decide +kernel
theorem dX12_unpack_51 : decode cX12_unpack 51 = .ok (.getfield 36, 3) := by decide +kernel
theorem dX12_unpack_54 : decode cX12_unpack 54 = .ok (.iconst 1, 1) := by decide +kernel
theorem dX12_unpack_55 : decode cX12_unpack 55 = .ok (.baload, 1) := by decide +kernel
theorem dX12_unpack_56 : decode cX12_unpack 56 = .ok (.iconst 5, 1) := by decide +kernel
theorem dX12_unpack_57 : decode cX12_unpack 57 = .ok (.ishr, 1) := by decide +kernel
theorem dX12_unpack_58 : decode cX12_unpack 58 = .ok (.iconst 1, 1) := by decide +kernel
theorem dX12_unpack_59 : decode cX12_unpack 59 = .ok (.iand, 1) := by decide +kernel
theorem dX12_unpack_60 : decode cX12_unpack 60 = .ok (.iconst 1, 1) := by decide +kernel
theorem dX12_unpack_61 : decode cX12_unpack 61 = .ok (.if_icmp .ne 7, 3) := by decide +kernel
theorem dX12_unpack_64 : decode cX12_unpack 64 = .ok (.iconst 1, 1) := by decide +kernel
theorem dX12_unpack_65 : decode cX12_unpack 65 = .ok (.goto 4, 3) := by decide +kernel
theorem dX12_unpack_68 : decode cX12_unpack 68 = .ok (.iconst 0, 1) := by decide +kernel
theorem dX12_unpack_69 : decode cX12_unpack 69 = .ok (.putfield 69, 3) := by decide +kernel
theorem dX12_unpack_72 : decode cX12_unpack 72 = .ok (.aload_n 0, 1) := by decide +kernel
theorem dX12_unpack_73 : decode cX12_unpack 73 = .ok (.iconst 0, 1) := by decide +kernel
theorem dX12_unpack_74 : decode cX12_unpack 74 = .ok (.putfield 76, 3) := by decide +kernel
theorem dX12_unpack_77 : decode cX12_unpack 77 = .ok (.iconst 0, 1) := by decide +kernel
theorem dX12_unpack_78 : decode cX12_unpack 78 = .ok (.istore_n 1, 1) := by decide +kernel
theorem dX12_unpack_79 : decode cX12_unpack 79 = .ok (.iload_n 1, 1) := by decide +kernel
theorem dX12_unpack_80 : decode cX12_unpack 80 = .ok (.ifCond .ne 81, 3) := by decide +kernel
theorem dX12_unpack_83 : decode cX12_unpack 83 = .ok (.aload_n 0, 1) := by decide +kernel
theorem dX12_unpack_84 : decode cX12_unpack 84 = .ok (.getfield 69, 3) := by decide +kernel
theorem dX12_unpack_87 : decode cX12_unpack 87 = .ok (.ifCond .ne 74, 3) := by decide +kernel
theorem dX12_unpack_90 : decode cX12_unpack 90 = .ok (.aload_n 0, 1) := by decide +kernel
theorem dX12_unpack_91 : decode cX12_unpack 91 = .ok (.iconst 1, 1) := by decide +kernel
theorem dX12_unpack_92 : decode cX12_unpack 92 = .ok (.invokevirtual 80, 3) := by decide +kernel
theorem dX12_unpack_95 : decode cX12_unpack 95 = .ok (.iconst 1, 1) := by decide +kernel
theorem dX12_unpack_96 : decode cX12_unpack 96 = .ok (.if_icmp .ne 7, 3) := by decide +kernel
theorem dX12_unpack_99 : decode cX12_unpack 99 = .ok (.iconst 1, 1) := by decide +kernel
theorem dX12_unpack_100 : decode cX12_unpack 100 = .ok (.goto 4, 3) := by decide +kernel
theorem dX12_unpack_103 : decode cX12_unpack 103 = .ok (.iconst 0, 1) := by decide +kernel
theorem dX12_unpack_104 : decode cX12_unpack 104 = .ok (.istore_n 1, 1) := by decide +kernel
theorem dX12_unpack_105 : decode cX12_unpack 105 = .ok (.aload_n 0, 1) := by decide +kernel
theorem dX12_unpack_106 : decode cX12_unpack 106 = .ok (.iconst 2, 1) := by decide +kernel
theorem dX12_unpack_107 : decode cX12_unpack 107 = .ok (.invokevirtual 80, 3) := by decide +kernel
theorem dX12_unpack_110 : decode cX12_unpack 110 = .ok (.istore_n 2, 1) := by decide +kernel
theorem dX12_unpack_111 : decode cX12_unpack 111 = .ok (.aload_n 0, 1) := by decide +kernel
theorem dX12_unpack_112 : decode cX12_unpack 112 = .ok (.getfield 69, 3) := by decide +kernel
theorem dX12_unpack_115 : decode cX12_unpack 115 = .ok (.ifCond .ne 8, 3) := by decide +kernel
theorem dX12_unpack_118 : decode cX12_unpack 118 = .ok (.iload_n 2, 1) := by decide +kernel
theorem dX12_unpack_119 : decode cX12_unpack 119 = .ok (.iconst 3, 1) := by decide +kernel
theorem dX12_unpack_120 : decode cX12_unpack 120 = .ok (.if_icmp .ne 11, 3) := by decide +kernel
theorem dX12_unpack_123 : decode cX12_unpack 123 = .ok (.aload_n 0, 1) := by decide +kernel
theorem dX12_unpack_124 : decode cX12_unpack 124 = .ok (.iconst 1, 1) := by decide +kernel
theorem dX12_unpack_125 : decode cX12_unpack 125 = .ok (.putfield 69, 3) := by decide +kernel
theorem dX12_unpack_128 : decode cX12_unpack 128 = .ok (.goto 30, 3) := by decide +kernel
theorem dX12_unpack_131 : decode cX12_unpack 131 = .ok (.iload_n 2, 1) := by decide +kernel
theorem dX12_unpack_132 : decode cX12_unpack 132 = .ok (.ifCond .ne 10, 3) := by decide +kernel
theorem dX12_unpack_135 : decode cX12_unpack 135 = .ok (.aload_n 0, 1) := by decide +kernel
theorem dX12_unpack_136 : decode cX12_unpack 136 = .ok (.invokevirtual 120, 3) := by decide +kernel
theorem dX12_unpack_139 : decode cX12_unpack 139 = .ok (.goto 19, 3) := by decide +kernel
theorem dX12_unpack_142 : decode cX12_unpack 142 = .ok (.iload_n 2, 1) := by decide +kernel
theorem dX12_unpack_143 : decode cX12_unpack 143 = .ok (.iconst 1, 1) := by decide +kernel
theorem dX12_unpack_144 : decode cX12_unpack 144 = .ok (.if_icmp .ne 10, 3) := by decide +kernel
theorem dX12_unpack_147 : decode cX12_unpack 147 = .ok (.aload_n 0, 1) := by decide +kernel
theorem dX12_unpack_148 : decode cX12_unpack 148 = .ok (.invokevirtual 123, 3) := by decide +kernel
theorem dX12_unpack_151 : decode cX12_unpack 151 = .ok (.goto 7, 3) := by decide +kernel
theorem dX12_unpack_154 : decode cX12_unpack 154 = .ok (.aload_n 0, 1) := by decide +kernel
theorem dX12_unpack_155 : decode cX12_unpack 155 = .ok (.invokevirtual 126, 3) := by decide +kernel
theorem dX12_unpack_158 : decode cX12_unpack 158 = .ok (.goto (-79), 3) := by decide +kernel
theorem dX12_unpack_161 : decode cX12_unpack 161 = .ok (.aload_n 0, 1) := by decide +kernel
theorem dX12_unpack_162 : decode cX12_unpack 162 = .ok (.getfield 69, 3) := by decide +kernel
theorem dX12_unpack_165 : decode cX12_unpack 165 = .ok (.ifCond .eq 5, 3) := by decide +kernel
theorem dX12_unpack_168 : decode cX12_unpack 168 = .ok (.iconst 0, 1) := by decide +kernel
theorem dX12_unpack_169 : decode cX12_unpack 169 = .ok (.ireturn, 1) := by decide +kernel
theorem dX12_unpack_170 : decode cX12_unpack 170 = .ok (.aload_n 0, 1) := by decide +kernel
theorem dX12_unpack_171 : decode cX12_unpack 171 = .ok (.invokevirtual 106, 3) := by decide +kernel
theorem dX12_unpack_174 : decode cX12_unpack 174 = .ok (.iconst 1, 1) := by decide +kernel
theorem dX12_unpack_175 : decode cX12_unpack 175 = .ok (.istore_n 2, 1) := by decide +kernel
theorem dX12_unpack_176 : decode cX12_unpack 176 = .ok (.iconst 0, 1) := by decide +kernel
theorem dX12_unpack_177 : decode cX12_unpack 177 = .ok (.istore_n 3, 1) := by decide +kernel
theorem dX12_unpack_178 : decode cX12_unpack 178 = .ok (.iconst 0, 1) := by decide +kernel
theorem dX12_unpack_179 : decode cX12_unpack 179 = .ok (.istore 4, 2) := by decide +kernel
theorem dX12_unpack_181 : decode cX12_unpack 181 = .ok (.iload 4, 2) := by decide +kernel
theorem dX12_unpack_183 : decode cX12_unpack 183 = .ok (.aload_n 0, 1) := by decide +kernel
theorem dX12_unpack_184 : decode cX12_unpack 184 = .ok (.getfield 76, 3) := by decide +kernel
theorem dX12_unpack_187 : decode cX12_unpack 187 = .ok (.if_icmp .ge 33, 3) := by decide +kernel
theorem dX12_unpack_190 : decode cX12_unpack 190 = .ok (.iload_n 2, 1) := by decide +kernel
theorem dX12_unpack_191 : decode cX12_unpack 191 = .ok (.aload_n 0, 1) := by decide +kernel
theorem dX12_unpack_192 : decode cX12_unpack 192 = .ok (.getfield 39, 3) := by decide +kernel
theorem dX12_unpack_195 : decode cX12_unpack 195 = .ok (.iload 4, 2) := by decide +kernel
theorem dX12_unpack_197 : decode cX12_unpack 197 = .ok (.baload, 1) := by decide +kernel
theorem dX12_unpack_198 : decode cX12_unpack 198 = .ok (.sipush 255, 3) := by decide +kernel
theorem dX12_unpack_201 : decode cX12_unpack 201 = .ok (.iand, 1) := by decide +kernel
theorem dX12_unpack_202 : decode cX12_unpack 202 = .ok (.iadd, 1) := by decide +kernel
theorem dX12_unpack_203 : decode cX12_unpack 203 = .ok (.ldc 129, 2) := by decide +kernel
theorem dX12_unpack_205 : decode cX12_unpack 205 = .ok (.irem, 1) := by decide +kernel
theorem dX12_unpack_206 : decode cX12_unpack 206 = .ok (.istore_n 2, 1) := by decide +kernel
theorem dX12_unpack_207 : decode cX12_unpack 207 = .ok (.iload_n 3, 1) := by decide +kernel
theorem dX12_unpack_208 : decode cX12_unpack 208 = .ok (.iload_n 2, 1) := by decide +kernel
theorem dX12_unpack_209 : decode cX12_unpack 209 = .ok (.iadd, 1) := by decide +kernel
theorem dX12_unpack_210 : decode cX12_unpack 210 = .ok (.ldc 129, 2) := by decide +kernel
theorem dX12_unpack_212 : decode cX12_unpack 212 = .ok (.irem, 1) := by decide +kernel
theorem dX12_unpack_213 : decode cX12_unpack 213 = .ok (.istore_n 3, 1) := by decide +kernel
theorem dX12_unpack_214 : decode cX12_unpack 214 = .ok (.iinc 4 1, 3) := by decide +kernel
theorem dX12_unpack_217 : decode cX12_unpack 217 = .ok (.goto (-36), 3) := by decide +kernel
theorem dX12_unpack_220 : decode cX12_unpack 220 = .ok (.aload_n 0, 1) := by decide +kernel
theorem dX12_unpack_221 : decode cX12_unpack 221 = .ok (.getfield 66, 3) := by decide +kernel
theorem dX12_unpack_224 : decode cX12_unpack 224 = .ok (.aload_n 0, 1) := by decide +kernel
theorem dX12_unpack_225 : decode cX12_unpack 225 = .ok (.getfield 63, 3) := by decide +kernel
theorem dX12_unpack_228 : decode cX12_unpack 228 = .ok (.iconst 4, 1) := by decide +kernel
theorem dX12_unpack_229 : decode cX12_unpack 229 = .ok (.iadd, 1) := by decide +kernel
theorem dX12_unpack_230 : decode cX12_unpack 230 = .ok (.if_icmp .ne 7, 3) := by decide +kernel
theorem dX12_unpack_233 : decode cX12_unpack 233 = .ok (.iconst 1, 1) := by decide +kernel
theorem dX12_unpack_234 : decode cX12_unpack 234 = .ok (.goto 4, 3) := by decide +kernel
theorem dX12_unpack_237 : decode cX12_unpack 237 = .ok (.iconst 0, 1) := by decide +kernel
theorem dX12_unpack_238 : decode cX12_unpack 238 = .ok (.istore 4, 2) := by decide +kernel
theorem dX12_unpack_240 : decode cX12_unpack 240 = .ok (.iconst 0, 1) := by decide +kernel
theorem dX12_unpack_241 : decode cX12_unpack 241 = .ok (.istore 5, 2) := by decide +kernel
theorem dX12_unpack_243 : decode cX12_unpack 243 = .ok (.iconst 0, 1) := by decide +kernel
theorem dX12_unpack_244 : decode cX12_unpack 244 = .ok (.istore 6, 2) := by decide +kernel
theorem dX12_unpack_246 : decode cX12_unpack 246 = .ok (.iload 6, 2) := by decide +kernel
theorem dX12_unpack_248 : decode cX12_unpack 248 = .ok (.iconst 4, 1) := by decide +kernel
theorem dX12_unpack_249 : decode cX12_unpack 249 = .ok (.if_icmp .ge 38, 3) := by decide +kernel
theorem dX12_unpack_252 : decode cX12_unpack 252 = .ok (.iload 4, 2) := by decide +kernel
theorem dX12_unpack_254 : decode cX12_unpack 254 = .ok (.ifCond .eq 33, 3) := by decide +kernel
theorem dX12_unpack_257 : decode cX12_unpack 257 = .ok (.iload 5, 2) := by decide +kernel
theorem dX12_unpack_259 : decode cX12_unpack 259 = .ok (.bipush 8, 2) := by decide +kernel
theorem dX12_unpack_261 : decode cX12_unpack 261 = .ok (.ishl, 1) := by decide +kernel
theorem dX12_unpack_262 : decode cX12_unpack 262 = .ok (.aload_n 0, 1) := by decide +kernel
theorem dX12_unpack_263 : decode cX12_unpack 263 = .ok (.getfield 36, 3) := by decide +kernel
theorem dX12_unpack_266 : decode cX12_unpack 266 = .ok (.aload_n 0, 1) := by decide +kernel
theorem dX12_unpack_267 : decode cX12_unpack 267 = .ok (.getfield 63, 3) := by decide +kernel
theorem dX12_unpack_270 : decode cX12_unpack 270 = .ok (.iload 6, 2) := by decide +kernel
theorem dX12_unpack_272 : decode cX12_unpack 272 = .ok (.iadd, 1) := by decide +kernel
theorem dX12_unpack_273 : decode cX12_unpack 273 = .ok (.baload, 1) := by decide +kernel
theorem dX12_unpack_274 : decode cX12_unpack 274 = .ok (.sipush 255, 3) := by decide +kernel
theorem dX12_unpack_277 : decode cX12_unpack 277 = .ok (.iand, 1) := by decide +kernel
theorem dX12_unpack_278 : decode cX12_unpack 278 = .ok (.ior, 1) := by decide +kernel
theorem dX12_unpack_279 : decode cX12_unpack 279 = .ok (.istore 5, 2) := by decide +kernel
theorem dX12_unpack_281 : decode cX12_unpack 281 = .ok (.iinc 6 1, 3) := by decide +kernel
theorem dX12_unpack_284 : decode cX12_unpack 284 = .ok (.goto (-38), 3) := by decide +kernel
theorem dX12_unpack_287 : decode cX12_unpack 287 = .ok (.iload 4, 2) := by decide +kernel
theorem dX12_unpack_289 : decode cX12_unpack 289 = .ok (.ifCond .eq 18, 3) := by decide +kernel
theorem dX12_unpack_292 : decode cX12_unpack 292 = .ok (.iload 5, 2) := by decide +kernel
theorem dX12_unpack_294 : decode cX12_unpack 294 = .ok (.iload_n 3, 1) := by decide +kernel
theorem dX12_unpack_295 : decode cX12_unpack 295 = .ok (.bipush 16, 2) := by decide +kernel
theorem dX12_unpack_297 : decode cX12_unpack 297 = .ok (.ishl, 1) := by decide +kernel
theorem dX12_unpack_298 : decode cX12_unpack 298 = .ok (.iload_n 2, 1) := by decide +kernel
theorem dX12_unpack_299 : decode cX12_unpack 299 = .ok (.ior, 1) := by decide +kernel
theorem dX12_unpack_300 : decode cX12_unpack 300 = .ok (.if_icmp .ne 7, 3) := by decide +kernel
theorem dX12_unpack_303 : decode cX12_unpack 303 = .ok (.iconst 1, 1) := by decide +kernel
theorem dX12_unpack_304 : decode cX12_unpack 304 = .ok (.goto 4, 3) := by decide +kernel
theorem dX12_unpack_307 : decode cX12_unpack 307 = .ok (.iconst 0, 1) := by decide +kernel
theorem dX12_unpack_308 : decode cX12_unpack 308 = .ok (.ireturn, 1) := by decide +kernel
theorem dX12_nearest_0 : decode cX12_nearest 0 = .ok (.iload_n 0, 1) := by decide +kernel
theorem dX12_nearest_1 : decode cX12_nearest 1 = .ok (.iload_n 1, 1) := by decide +kernel
theorem dX12_nearest_2 : decode cX12_nearest 2 = .ok (.iadd, 1) := by decide +kernel
theorem dX12_nearest_3 : decode cX12_nearest 3 = .ok (.iload_n 2, 1) := by decide +kernel
theorem dX12_nearest_4 : decode cX12_nearest 4 = .ok (.isub, 1) := by decide +kernel
theorem dX12_nearest_5 : decode cX12_nearest 5 = .ok (.istore_n 3, 1) := by decide +kernel
theorem dX12_nearest_6 : decode cX12_nearest 6 = .ok (.iload_n 3, 1) := by decide +kernel
theorem dX12_nearest_7 : decode cX12_nearest 7 = .ok (.iload_n 0, 1) := by decide +kernel
theorem dX12_nearest_8 : decode cX12_nearest 8 = .ok (.if_icmp .ge 9, 3) := by decide +kernel
theorem dX12_nearest_11 : decode cX12_nearest 11 = .ok (.iload_n 0, 1) := by decide +kernel
theorem dX12_nearest_12 : decode cX12_nearest 12 = .ok (.iload_n 3, 1) := by decide +kernel
theorem dX12_nearest_13 : decode cX12_nearest 13 = .ok (.isub, 1) := by decide +kernel
theorem dX12_nearest_14 : decode cX12_nearest 14 = .ok (.goto 6, 3) := by decide +kernel
theorem dX12_nearest_17 : decode cX12_nearest 17 = .ok (.iload_n 3, 1) := by decide +kernel
theorem dX12_nearest_18 : decode cX12_nearest 18 = .ok (.iload_n 0, 1) := by decide +kernel
theorem dX12_nearest_19 : decode cX12_nearest 19 = .ok (.isub, 1) := by decide +kernel
theorem dX12_nearest_20 : decode cX12_nearest 20 = .ok (.istore 4, 2) := by decide +kernel
theorem dX12_nearest_22 : decode cX12_nearest 22 = .ok (.iload_n 3, 1) := by decide +kernel
theorem dX12_nearest_23 : decode cX12_nearest 23 = .ok (.iload_n 1, 1) := by decide +kernel
theorem dX12_nearest_24 : decode cX12_nearest 24 = .ok (.if_icmp .ge 9, 3) := by decide +kernel
