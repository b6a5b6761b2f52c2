theorem dX0_init_0 : decode cX0_init 0 = .ok (.aload_n 0, 1) := by decide +kernel
theorem dX0_init_1 : decode cX0_init 1 = .ok (.invokespecial 3, 3) := by decide +kernel
theorem dX0_init_4 : decode cX0_init 4 = .ok (.aload_n 0, 1) := by decide +kernel
theorem dX0_init_5 : decode cX0_init 5 = .ok (.aload_n 1, 1) := by decide +kernel
theorem dX0_init_6 : decode cX0_init 6 = .ok (.putfield 9, 3) := by decide +kernel
theorem dX0_init_9 : decode cX0_init 9 = .ok (.return_, 1) := by decide +kernel
theorem dX0_take_0 : decode cX0_take 0 = .ok (.iload_n 1, 1) := by decide +kernel
theorem dX0_take_1 : decode cX0_take 1 = .ok (.aload_n 0, 1) := by decide +kernel
theorem dX0_take_2 : decode cX0_take 2 = .ok (.getfield 9, 3) := by decide +kernel
theorem dX0_take_5 : decode cX0_take 5 = .ok (.getfield 15, 3) := by decide +kernel
theorem dX0_take_8 : decode cX0_take 8 = .ok (.bipush 8, 2) := by decide +kernel
theorem dX0_take_10 : decode cX0_take 10 = .ok (.imul, 1) := by decide +kernel
theorem dX0_take_11 : decode cX0_take 11 = .ok (.aload_n 0, 1) := by decide +kernel
theorem dX0_take_12 : decode cX0_take 12 = .ok (.getfield 21, 3) := by decide +kernel
theorem dX0_take_15 : decode cX0_take 15 = .ok (.isub, 1) := by decide +kernel
theorem dX0_take_16 : decode cX0_take 16 = .ok (.if_icmp .le 5, 3) := by decide +kernel
theorem dX0_take_19 : decode cX0_take 19 = .ok (.iconst (-1), 1) := by decide +kernel
theorem dX0_take_20 : decode cX0_take 20 = .ok (.ireturn, 1) := by decide +kernel
theorem dX0_take_21 : decode cX0_take 21 = .ok (.iconst 0, 1) := by decide +kernel
theorem dX0_take_22 : decode cX0_take 22 = .ok (.istore_n 2, 1) := by decide +kernel
theorem dX0_take_23 : decode cX0_take 23 = .ok (.iconst 0, 1) := by decide +kernel
theorem dX0_take_24 : decode cX0_take 24 = .ok (.istore_n 3, 1) := by decide +kernel
theorem dX0_take_25 : decode cX0_take 25 = .ok (.iload_n 3, 1) := by decide +kernel
theorem dX0_take_26 : decode cX0_take 26 = .ok (.iload_n 1, 1) := by decide +kernel
theorem dX0_take_27 : decode cX0_take 27 = .ok (.if_icmp .ge 48, 3) := by decide +kernel
theorem dX0_take_30 : decode cX0_take 30 = .ok (.iload_n 2, 1) := by decide +kernel
theorem dX0_take_31 : decode cX0_take 31 = .ok (.aload_n 0, 1) := by decide +kernel
theorem dX0_take_32 : decode cX0_take 32 = .ok (.getfield 9, 3) := by decide +kernel
theorem dX0_take_35 : decode cX0_take 35 = .ok (.getfield 24, 3) := by decide +kernel
theorem dX0_take_38 : decode cX0_take 38 = .ok (.aload_n 0, 1) := by decide +kernel
theorem dX0_take_39 : decode cX0_take 39 = .ok (.getfield 21, 3) := by decide +kernel
theorem dX0_take_42 : decode cX0_take 42 = .ok (.iconst 3, 1) := by decide +kernel
theorem dX0_take_43 : decode cX0_take 43 = .ok (.ishr, 1) := by decide +kernel
theorem dX0_take_44 : decode cX0_take 44 = .ok (.baload, 1) := by decide +kernel
theorem dX0_take_45 : decode cX0_take 45 = .ok (.aload_n 0, 1) := by decide +kernel
theorem dX0_take_46 : decode cX0_take 46 = .ok (.getfield 21, 3) := by decide +kernel
theorem dX0_take_49 : decode cX0_take 49 = .ok (.bipush 7, 2) := by decide +kernel
theorem dX0_take_51 : decode cX0_take 51 = .ok (.iand, 1) := by decide +kernel
theorem dX0_take_52 : decode cX0_take 52 = .ok (.ishr, 1) := by decide +kernel
theorem dX0_take_53 : decode cX0_take 53 = .ok (.iconst 1, 1) := by decide +kernel
theorem dX0_take_54 : decode cX0_take 54 = .ok (.iand, 1) := by decide +kernel
theorem dX0_take_55 : decode cX0_take 55 = .ok (.iload_n 3, 1) := by decide +kernel
theorem dX0_take_56 : decode cX0_take 56 = .ok (.ishl, 1) := by decide +kernel
theorem dX0_take_57 : decode cX0_take 57 = .ok (.ior, 1) := by decide +kernel
theorem dX0_take_58 : decode cX0_take 58 = .ok (.istore_n 2, 1) := by decide +kernel
theorem dX0_take_59 : decode cX0_take 59 = .ok (.aload_n 0, 1) := by decide +kernel
theorem dX0_take_60 : decode cX0_take 60 = .ok (.dup, 1) := by decide +kernel
theorem dX0_take_61 : decode cX0_take 61 = .ok (.getfield 21, 3) := by decide +kernel
theorem dX0_take_64 : decode cX0_take 64 = .ok (.iconst 1, 1) := by decide +kernel
theorem dX0_take_65 : decode cX0_take 65 = .ok (.iadd, 1) := by decide +kernel
theorem dX0_take_66 : decode cX0_take 66 = .ok (.putfield 21, 3) := by decide +kernel
theorem dX0_take_69 : decode cX0_take 69 = .ok (.iinc 3 1, 3) := by decide +kernel
theorem dX0_take_72 : decode cX0_take 72 = .ok (.goto (-47), 3) := by decide +kernel
theorem dX0_take_75 : decode cX0_take 75 = .ok (.iload_n 2, 1) := by decide +kernel
theorem dX0_take_76 : decode cX0_take 76 = .ok (.ireturn, 1) := by decide +kernel
theorem dX0_symbol_0 : decode cX0_symbol 0 = .ok (.aload_n 0, 1) := by decide +kernel
theorem dX0_symbol_1 : decode cX0_symbol 1 = .ok (.getfield 9, 3) := by decide +kernel
theorem dX0_symbol_4 : decode cX0_symbol 4 = .ok (.getfield 15, 3) := by decide +kernel
theorem dX0_symbol_7 : decode cX0_symbol 7 = .ok (.bipush 8, 2) := by decide +kernel
theorem dX0_symbol_9 : decode cX0_symbol 9 = .ok (.imul, 1) := by decide +kernel
theorem dX0_symbol_10 : decode cX0_symbol 10 = .ok (.istore_n 2, 1) := by decide +kernel
theorem dX0_symbol_11 : decode cX0_symbol 11 = .ok (.iconst 0, 1) := by decide +kernel
theorem dX0_symbol_12 : decode cX0_symbol 12 = .ok (.istore_n 3, 1) := by decide +kernel
theorem dX0_symbol_13 : decode cX0_symbol 13 = .ok (.iconst 0, 1) := by decide +kernel
theorem dX0_symbol_14 : decode cX0_symbol 14 = .ok (.istore 4, 2) := by decide +kernel
theorem dX0_symbol_16 : decode cX0_symbol 16 = .ok (.iconst 0, 1) := by decide +kernel
theorem dX0_symbol_17 : decode cX0_symbol 17 = .ok (.istore 5, 2) := by decide +kernel
theorem dX0_symbol_19 : decode cX0_symbol 19 = .ok (.iconst 1, 1) := by decide +kernel
theorem dX0_symbol_20 : decode cX0_symbol 20 = .ok (.istore 6, 2) := by decide +kernel
theorem dX0_symbol_22 : decode cX0_symbol 22 = .ok (.iload 6, 2) := by decide +kernel
theorem dX0_symbol_24 : decode cX0_symbol 24 = .ok (.bipush 15, 2) := by decide +kernel
theorem dX0_symbol_26 : decode cX0_symbol 26 = .ok (.if_icmp .gt 105, 3) := by decide +kernel
theorem dX0_symbol_29 : decode cX0_symbol 29 = .ok (.aload_n 0, 1) := by decide +kernel
theorem dX0_symbol_30 : decode cX0_symbol 30 = .ok (.getfield 21, 3) := by decide +kernel
theorem dX0_symbol_33 : decode cX0_symbol 33 = .ok (.iload_n 2, 1) := by decide +kernel
theorem dX0_symbol_34 : decode cX0_symbol 34 = .ok (.if_icmp .ge 97, 3) := by decide +kernel
theorem dX0_symbol_37 : decode cX0_symbol 37 = .ok (.iload_n 3, 1) := by decide +kernel
theorem dX0_symbol_38 : decode cX0_symbol 38 = .ok (.aload_n 0, 1) := by decide +kernel
theorem dX0_symbol_39 : decode cX0_symbol 39 = .ok (.getfield 9, 3) := by decide +kernel
theorem dX0_symbol_42 : decode cX0_symbol 42 = .ok (.getfield 24, 3) := by decide +kernel
theorem dX0_symbol_45 : decode cX0_symbol 45 = .ok (.aload_n 0, 1) := by decide +kernel
theorem dX0_symbol_46 : decode cX0_symbol 46 = .ok (.getfield 21, 3) := by decide +kernel
theorem dX0_symbol_49 : decode cX0_symbol 49 = .ok (.iconst 3, 1) := by decide +kernel
theorem dX0_symbol_50 : decode cX0_symbol 50 = .ok (.ishr, 1) := by decide +kernel
theorem dX0_symbol_51 : decode cX0_symbol 51 = .ok (.baload, 1) := by decide +kernel
theorem dX0_symbol_52 : decode cX0_symbol 52 = .ok (.aload_n 0, 1) := by decide +kernel
theorem dX0_symbol_53 : decode cX0_symbol 53 = .ok (.getfield 21, 3) := by decide +kernel
theorem dX0_symbol_56 : decode cX0_symbol 56 = .ok (.bipush 7, 2) := by decide +kernel
theorem dX0_symbol_58 : decode cX0_symbol 58 = .ok (.iand, 1) := by decide +kernel
theorem dX0_symbol_59 : decode cX0_symbol 59 = .ok (.ishr, 1) := by decide +kernel
theorem dX0_symbol_60 : decode cX0_symbol 60 = .ok (.iconst 1, 1) := by decide +kernel
theorem dX0_symbol_61 : decode cX0_symbol 61 = .ok (.iand, 1) := by decide +kernel
theorem dX0_symbol_62 : decode cX0_symbol 62 = .ok (.iadd, 1) := by decide +kernel
theorem dX0_symbol_63 : decode cX0_symbol 63 = .ok (.istore_n 3, 1) := by decide +kernel
theorem dX0_symbol_64 : decode cX0_symbol 64 = .ok (.aload_n 0, 1) := by decide +kernel
theorem dX0_symbol_65 : decode cX0_symbol 65 = .ok (.dup, 1) := by decide +kernel
theorem dX0_symbol_66 : decode cX0_symbol 66 = .ok (.getfield 21, 3) := by decide +kernel
theorem dX0_symbol_69 : decode cX0_symbol 69 = .ok (.iconst 1, 1) := by decide +kernel
theorem dX0_symbol_70 : decode cX0_symbol 70 = .ok (.iadd, 1) := by decide +kernel
theorem dX0_symbol_71 : decode cX0_symbol 71 = .ok (.putfield 21, 3) := by decide +kernel
theorem dX0_symbol_74 : decode cX0_symbol 74 = .ok (.aload_n 1, 1) := by decide +kernel
theorem dX0_symbol_75 : decode cX0_symbol 75 = .ok (.getfield 30, 3) := by decide +kernel
theorem dX0_symbol_78 : decode cX0_symbol 78 = .ok (.iload 6, 2) := by decide +kernel
theorem dX0_symbol_80 : decode cX0_symbol 80 = .ok (.iaload, 1) := by decide +kernel
theorem dX0_symbol_81 : decode cX0_symbol 81 = .ok (.istore 7, 2) := by decide +kernel
theorem dX0_symbol_83 : decode cX0_symbol 83 = .ok (.iload_n 3, 1) := by decide +kernel
theorem dX0_symbol_84 : decode cX0_symbol 84 = .ok (.iload 4, 2) := by decide +kernel
theorem dX0_symbol_86 : decode cX0_symbol 86 = .ok (.isub, 1) := by decide +kernel
theorem dX0_symbol_87 : decode cX0_symbol 87 = .ok (.iload 7, 2) := by decide +kernel
theorem dX0_symbol_89 : decode cX0_symbol 89 = .ok (.if_icmp .ge 16, 3) := by decide +kernel
theorem dX0_symbol_92 : decode cX0_symbol 92 = .ok (.aload_n 1, 1) := by decide +kernel
theorem dX0_symbol_93 : decode cX0_symbol 93 = .ok (.getfield 34, 3) := by decide +kernel
theorem dX0_symbol_96 : decode cX0_symbol 96 = .ok (.iload 5, 2) := by decide +kernel
theorem dX0_symbol_98 : decode cX0_symbol 98 = .ok (.iload_n 3, 1) := by decide +kernel
theorem dX0_symbol_99 : decode cX0_symbol 99 = .ok (.iadd, 1) := by decide +kernel
theorem dX0_symbol_100 : decode cX0_symbol 100 = .ok (.iload 4, 2) := by decide +kernel
theorem dX0_symbol_102 : decode cX0_symbol 102 = .ok (.isub, 1) := by decide +kernel
theorem dX0_symbol_103 : decode cX0_symbol 103 = .ok (.iaload, 1) := by decide +kernel
theorem dX0_symbol_104 : decode cX0_symbol 104 = .ok (.ireturn, 1) := by decide +kernel
theorem dX0_symbol_105 : decode cX0_symbol 105 = .ok (.iload 5, 2) := by decide +kernel
theorem dX0_symbol_107 : decode cX0_symbol 107 = .ok (.iload 7, 2) := by decide +kernel
theorem dX0_symbol_109 : decode cX0_symbol 109 = .ok (.iadd, 1) := by decide +kernel
theorem dX0_symbol_110 : decode cX0_symbol 110 = .ok (.istore 5, 2) := by decide +kernel
theorem dX0_symbol_112 : decode cX0_symbol 112 = .ok (.iload 4, 2) := by decide +kernel
theorem dX0_symbol_114 : decode cX0_symbol 114 = .ok (.iload 7, 2) := by decide +kernel
theorem dX0_symbol_116 : decode cX0_symbol 116 = .ok (.iadd, 1) := by decide +kernel
theorem dX0_symbol_117 : decode cX0_symbol 117 = .ok (.iconst 2, 1) := by decide +kernel
theorem dX0_symbol_118 : decode cX0_symbol 118 = .ok (.imul, 1) := by decide +kernel
theorem dX0_symbol_119 : decode cX0_symbol 119 = .ok (.istore 4, 2) := by decide +kernel
theorem dX0_symbol_121 : decode cX0_symbol 121 = .ok (.iload_n 3, 1) := by decide +kernel
theorem dX0_symbol_122 : decode cX0_symbol 122 = .ok (.iconst 2, 1) := by decide +kernel
theorem dX0_symbol_123 : decode cX0_symbol 123 = .ok (.imul, 1) := by decide +kernel
theorem dX0_symbol_124 : decode cX0_symbol 124 = .ok (.istore_n 3, 1) := by decide +kernel
theorem dX0_symbol_125 : decode cX0_symbol 125 = .ok (.iinc 6 1, 3) := by decide +kernel
theorem dX0_symbol_128 : decode cX0_symbol 128 = .ok (.goto (-106), 3) := by decide +kernel
theorem dX0_symbol_131 : decode cX0_symbol 131 = .ok (.iconst (-1), 1) := by decide +kernel
theorem dX0_symbol_132 : decode cX0_symbol 132 = .ok (.ireturn, 1) := by decide +kernel
theorem dX0_skipToByte_0 : decode cX0_skipToByte 0 = .ok (.aload_n 0, 1) := by decide +kernel
theorem dX0_skipToByte_1 : decode cX0_skipToByte 1 = .ok (.aload_n 0, 1) := by decide +kernel
theorem dX0_skipToByte_2 : decode cX0_skipToByte 2 = .ok (.getfield 21, 3) := by decide +kernel
theorem dX0_skipToByte_5 : decode cX0_skipToByte 5 = .ok (.bipush 7, 2) := by decide +kernel
theorem dX0_skipToByte_7 : decode cX0_skipToByte 7 = .ok (.iadd, 1) := by decide +kernel
theorem dX0_skipToByte_8 : decode cX0_skipToByte 8 = .ok (.bipush 8, 2) := by decide +kernel
theorem dX0_skipToByte_10 : decode cX0_skipToByte 10 = .ok (.idiv, 1) := by decide +kernel
theorem dX0_skipToByte_11 : decode cX0_skipToByte 11 = .ok (.bipush 8, 2) := by decide +kernel
theorem dX0_skipToByte_13 : decode cX0_skipToByte 13 = .ok (.imul, 1) := by decide +kernel
theorem dX0_skipToByte_14 : decode cX0_skipToByte 14 = .ok (.putfield 21, 3) := by decide +kernel
theorem dX0_skipToByte_17 : decode cX0_skipToByte 17 = .ok (.return_, 1) := by decide +kernel
theorem dX1_init_0 : decode cX1_init 0 = .ok (.aload_n 0, 1) := by decide +kernel
theorem dX1_init_1 : decode cX1_init 1 = .ok (.invokespecial 3, 3) := by decide +kernel
theorem dX1_init_4 : decode cX1_init 4 = .ok (.aload_n 0, 1) := by decide +kernel
theorem dX1_init_5 : decode cX1_init 5 = .ok (.iload_n 1, 1) := by decide +kernel
theorem dX1_init_6 : decode cX1_init 6 = .ok (.newarray .byte, 2) := by decide +kernel
theorem dX1_init_8 : decode cX1_init 8 = .ok (.putfield 9, 3) := by decide +kernel
theorem dX1_init_11 : decode cX1_init 11 = .ok (.return_, 1) := by decide +kernel
theorem dX1_clear_0 : decode cX1_clear 0 = .ok (.aload_n 0, 1) := by decide +kernel
theorem dX1_clear_1 : decode cX1_clear 1 = .ok (.iconst 0, 1) := by decide +kernel
theorem dX1_clear_2 : decode cX1_clear 2 = .ok (.putfield 15, 3) := by decide +kernel
theorem dX1_clear_5 : decode cX1_clear 5 = .ok (.return_, 1) := by decide +kernel
theorem dX1_fits_0 : decode cX1_fits 0 = .ok (.iload_n 1, 1) := by decide +kernel
theorem dX1_fits_1 : decode cX1_fits 1 = .ok (.aload_n 0, 1) := by decide +kernel
theorem dX1_fits_2 : decode cX1_fits 2 = .ok (.getfield 9, 3) := by decide +kernel
theorem dX1_fits_5 : decode cX1_fits 5 = .ok (.arraylength, 1) := by decide +kernel
theorem dX1_fits_6 : decode cX1_fits 6 = .ok (.aload_n 0, 1) := by decide +kernel
theorem dX1_fits_7 : decode cX1_fits 7 = .ok (.getfield 15, 3) := by decide +kernel
theorem dX1_fits_10 : decode cX1_fits 10 = .ok (.isub, 1) := by decide +kernel
theorem dX1_fits_11 : decode cX1_fits 11 = .ok (.if_icmp .gt 7, 3) := by decide +kernel
theorem dX1_fits_14 : decode cX1_fits 14 = .ok (.iconst 1, 1) := by decide +kernel
theorem dX1_fits_15 : decode cX1_fits 15 = .ok (.goto 4, 3) := by decide +kernel
theorem dX1_fits_18 : decode cX1_fits 18 = .ok (.iconst 0, 1) := by decide +kernel
theorem dX1_fits_19 : decode cX1_fits 19 = .ok (.ireturn, 1) := by decide +kernel
theorem dX1_add_0 : decode cX1_add 0 = .ok (.aload_n 0, 1) := by decide +kernel
theorem dX1_add_1 : decode cX1_add 1 = .ok (.getfield 15, 3) := by decide +kernel
theorem dX1_add_4 : decode cX1_add 4 = .ok (.aload_n 0, 1) := by decide +kernel
theorem dX1_add_5 : decode cX1_add 5 = .ok (.getfield 9, 3) := by decide +kernel
theorem dX1_add_8 : decode cX1_add 8 = .ok (.arraylength, 1) := by decide +kernel
theorem dX1_add_9 : decode cX1_add 9 = .ok (.if_icmp .ge 24, 3) := by decide +kernel
theorem dX1_add_12 : decode cX1_add 12 = .ok (.aload_n 0, 1) := by decide +kernel
theorem dX1_add_13 : decode cX1_add 13 = .ok (.getfield 9, 3) := by decide +kernel
theorem dX1_add_16 : decode cX1_add 16 = .ok (.aload_n 0, 1) := by decide +kernel
theorem dX1_add_17 : decode cX1_add 17 = .ok (.getfield 15, 3) := by decide +kernel
theorem dX1_add_20 : decode cX1_add 20 = .ok (.iload_n 1, 1) := by decide +kernel
theorem dX1_add_21 : decode cX1_add 21 = .ok (.i2b, 1) := by decide +kernel
theorem dX1_add_22 : decode cX1_add 22 = .ok (.bastore, 1) := by decide +kernel
theorem dX1_add_23 : decode cX1_add 23 = .ok (.aload_n 0, 1) := by decide +kernel
theorem dX1_add_24 : decode cX1_add 24 = .ok (.dup, 1) := by decide +kernel
theorem dX1_add_25 : decode cX1_add 25 = .ok (.getfield 15, 3) := by decide +kernel
theorem dX1_add_28 : decode cX1_add 28 = .ok (.iconst 1, 1) := by decide +kernel
theorem dX1_add_29 : decode cX1_add 29 = .ok (.iadd, 1) := by decide +kernel
theorem dX1_add_30 : decode cX1_add 30 = .ok (.putfield 15, 3) := by decide +kernel
theorem dX1_add_33 : decode cX1_add 33 = .ok (.return_, 1) := by decide +kernel
theorem dX1_addNumber_0 : decode cX1_addNumber 0 = .ok (.aload_n 0, 1) := by decide +kernel
theorem dX1_addNumber_1 : decode cX1_addNumber 1 = .ok (.iload_n 1, 1) := by decide +kernel
theorem dX1_addNumber_2 : decode cX1_addNumber 2 = .ok (.bipush 24, 2) := by decide +kernel
theorem dX1_addNumber_4 : decode cX1_addNumber 4 = .ok (.iushr, 1) := by decide +kernel
theorem dX1_addNumber_5 : decode cX1_addNumber 5 = .ok (.invokevirtual 19, 3) := by decide +kernel
theorem dX1_addNumber_8 : decode cX1_addNumber 8 = .ok (.aload_n 0, 1) := by decide +kernel
theorem dX1_addNumber_9 : decode cX1_addNumber 9 = .ok (.iload_n 1, 1) := by decide +kernel
theorem dX1_addNumber_10 : decode cX1_addNumber 10 = .ok (.bipush 16, 2) := by decide +kernel
theorem dX1_addNumber_12 : decode cX1_addNumber 12 = .ok (.iushr, 1) := by decide +kernel
theorem dX1_addNumber_13 : decode cX1_addNumber 13 = .ok (.invokevirtual 19, 3) := by decide +kernel
theorem dX1_addNumber_16 : decode cX1_addNumber 16 = .ok (.aload_n 0, 1) := by decide +kernel
theorem dX1_addNumber_17 : decode cX1_addNumber 17 = .ok (.iload_n 1, 1) := by decide +kernel
theorem dX1_addNumber_18 : decode cX1_addNumber 18 = .ok (.bipush 8, 2) := by decide +kernel
theorem dX1_addNumber_20 : decode cX1_addNumber 20 = .ok (.iushr, 1) := by decide +kernel
theorem dX1_addNumber_21 : decode cX1_addNumber 21 = .ok (.invokevirtual 19, 3) := by decide +kernel
theorem dX1_addNumber_24 : decode cX1_addNumber 24 = .ok (.aload_n 0, 1) := by decide +kernel
theorem dX1_addNumber_25 : decode cX1_addNumber 25 = .ok (.iload_n 1, 1) := by decide +kernel
theorem dX1_addNumber_26 : decode cX1_addNumber 26 = .ok (.invokevirtual 19, 3) := by decide +kernel
theorem dX1_addNumber_29 : decode cX1_addNumber 29 = .ok (.return_, 1) := by decide +kernel
theorem dX1_addPart_0 : decode cX1_addPart 0 = .ok (.iload_n 2, 1) := by decide +kernel
theorem dX1_addPart_1 : decode cX1_addPart 1 = .ok (.istore 4, 2) := by decide +kernel
theorem dX1_addPart_3 : decode cX1_addPart 3 = .ok (.iload 4, 2) := by decide +kernel
theorem dX1_addPart_5 : decode cX1_addPart 5 = .ok (.iload_n 3, 1) := by decide +kernel
theorem dX1_addPart_6 : decode cX1_addPart 6 = .ok (.if_icmp .ge 19, 3) := by decide +kernel
theorem dX1_addPart_9 : decode cX1_addPart 9 = .ok (.aload_n 0, 1) := by decide +kernel
theorem dX1_addPart_10 : decode cX1_addPart 10 = .ok (.aload_n 1, 1) := by decide +kernel
theorem dX1_addPart_11 : decode cX1_addPart 11 = .ok (.iload 4, 2) := by decide +kernel
theorem dX1_addPart_13 : decode cX1_addPart 13 = .ok (.invokevirtual 23, 3) := by decide +kernel
theorem dX1_addPart_16 : decode cX1_addPart 16 = .ok (.invokevirtual 19, 3) := by decide +kernel
theorem dX1_addPart_19 : decode cX1_addPart 19 = .ok (.iinc 4 1, 3) := by decide +kernel
theorem dX1_addPart_22 : decode cX1_addPart 22 = .ok (.goto (-19), 3) := by decide +kernel
theorem dX1_addPart_25 : decode cX1_addPart 25 = .ok (.return_, 1) := by decide +kernel
theorem dX1_at_0 : decode cX1_at 0 = .ok (.iload_n 1, 1) := by decide +kernel
theorem dX1_at_1 : decode cX1_at 1 = .ok (.ifCond .lt 24, 3) := by decide +kernel
theorem dX1_at_4 : decode cX1_at 4 = .ok (.iload_n 1, 1) := by decide +kernel
theorem dX1_at_5 : decode cX1_at 5 = .ok (.aload_n 0, 1) := by decide +kernel
theorem dX1_at_6 : decode cX1_at 6 = .ok (.getfield 15, 3) := by decide +kernel
theorem dX1_at_9 : decode cX1_at 9 = .ok (.if_icmp .ge 16, 3) := by decide +kernel
theorem dX1_at_12 : decode cX1_at 12 = .ok (.aload_n 0, 1) := by decide +kernel
theorem dX1_at_13 : decode cX1_at 13 = .ok (.getfield 9, 3) := by decide +kernel
theorem dX1_at_16 : decode cX1_at 16 = .ok (.iload_n 1, 1) := by decide +kernel
theorem dX1_at_17 : decode cX1_at 17 = .ok (.baload, 1) := by decide +kernel
theorem dX1_at_18 : decode cX1_at 18 = .ok (.sipush 255, 3) := by decide +kernel
theorem dX1_at_21 : decode cX1_at 21 = .ok (.iand, 1) := by decide +kernel
theorem dX1_at_22 : decode cX1_at 22 = .ok (.goto 4, 3) := by decide +kernel
theorem dX1_at_25 : decode cX1_at 25 = .ok (.iconst (-1), 1) := by decide +kernel
theorem dX1_at_26 : decode cX1_at 26 = .ok (.ireturn, 1) := by decide +kernel
theorem dX1_number_0 : decode cX1_number 0 = .ok (.iload_n 1, 1) := by decide +kernel
theorem dX1_number_1 : decode cX1_number 1 = .ok (.ifCond .lt 13, 3) := by decide +kernel
theorem dX1_number_4 : decode cX1_number 4 = .ok (.iload_n 1, 1) := by decide +kernel
theorem dX1_number_5 : decode cX1_number 5 = .ok (.aload_n 0, 1) := by decide +kernel
theorem dX1_number_6 : decode cX1_number 6 = .ok (.getfield 15, 3) := by decide +kernel
theorem dX1_number_9 : decode cX1_number 9 = .ok (.iconst 4, 1) := by decide +kernel
theorem dX1_number_10 : decode cX1_number 10 = .ok (.isub, 1) := by decide +kernel
theorem dX1_number_11 : decode cX1_number 11 = .ok (.if_icmp .le 5, 3) := by decide +kernel
theorem dX1_number_14 : decode cX1_number 14 = .ok (.iconst (-1), 1) := by decide +kernel
theorem dX1_number_15 : decode cX1_number 15 = .ok (.ireturn, 1) := by decide +kernel
theorem dX1_number_16 : decode cX1_number 16 = .ok (.aload_n 0, 1) := by decide +kernel
theorem dX1_number_17 : decode cX1_number 17 = .ok (.getfield 9, 3) := by decide +kernel
theorem dX1_number_20 : decode cX1_number 20 = .ok (.iload_n 1, 1) := by decide +kernel
theorem dX1_number_21 : decode cX1_number 21 = .ok (.baload, 1) := by decide +kernel
theorem dX1_number_22 : decode cX1_number 22 = .ok (.sipush 255, 3) := by decide +kernel
theorem dX1_number_25 : decode cX1_number 25 = .ok (.iand, 1) := by decide +kernel
theorem dX1_number_26 : decode cX1_number 26 = .ok (.bipush 24, 2) := by decide +kernel
theorem dX1_number_28 : decode cX1_number 28 = .ok (.ishl, 1) := by decide +kernel
theorem dX1_number_29 : decode cX1_number 29 = .ok (.aload_n 0, 1) := by decide +kernel
theorem dX1_number_30 : decode cX1_number 30 = .ok (.getfield 9, 3) := by decide +kernel
theorem dX1_number_33 : decode cX1_number 33 = .ok (.iload_n 1, 1) := by decide +kernel
theorem dX1_number_34 : decode cX1_number 34 = .ok (.iconst 1, 1) := by decide +kernel
theorem dX1_number_35 : decode cX1_number 35 = .ok (.iadd, 1) := by decide +kernel
theorem dX1_number_36 : decode cX1_number 36 = .ok (.baload, 1) := by decide +kernel
theorem dX1_number_37 : decode cX1_number 37 = .ok (.sipush 255, 3) := by decide +kernel
theorem dX1_number_40 : decode cX1_number 40 = .ok (.iand, 1) := by decide +kernel
theorem dX1_number_41 : decode cX1_number 41 = .ok (.bipush 16, 2) := by decide +kernel
theorem dX1_number_43 : decode cX1_number 43 = .ok (.ishl, 1) := by decide +kernel
theorem dX1_number_44 : decode cX1_number 44 = .ok (.ior, 1) := by decide +kernel
theorem dX1_number_45 : decode cX1_number 45 = .ok (.aload_n 0, 1) := by decide +kernel
theorem dX1_number_46 : decode cX1_number 46 = .ok (.getfield 9, 3) := by decide +kernel
theorem dX1_number_49 : decode cX1_number 49 = .ok (.iload_n 1, 1) := by decide +kernel
theorem dX1_number_50 : decode cX1_number 50 = .ok (.iconst 2, 1) := by decide +kernel
theorem dX1_number_51 : decode cX1_number 51 = .ok (.iadd, 1) := by decide +kernel
theorem dX1_number_52 : decode cX1_number 52 = .ok (.baload, 1) := by decide +kernel
theorem dX1_number_53 : decode cX1_number 53 = .ok (.sipush 255, 3) := by decide +kernel
theorem dX1_number_56 : decode cX1_number 56 = .ok (.iand, 1) := by decide +kernel
theorem dX1_number_57 : decode cX1_number 57 = .ok (.bipush 8, 2) := by decide +kernel
theorem dX1_number_59 : decode cX1_number 59 = .ok (.ishl, 1) := by decide +kernel
theorem dX1_number_60 : decode cX1_number 60 = .ok (.ior, 1) := by decide +kernel
theorem dX1_number_61 : decode cX1_number 61 = .ok (.aload_n 0, 1) := by decide +kernel
theorem dX1_number_62 : decode cX1_number 62 = .ok (.getfield 9, 3) := by decide +kernel
theorem dX1_number_65 : decode cX1_number 65 = .ok (.iload_n 1, 1) := by decide +kernel
theorem dX1_number_66 : decode cX1_number 66 = .ok (.iconst 3, 1) := by decide +kernel
theorem dX1_number_67 : decode cX1_number 67 = .ok (.iadd, 1) := by decide +kernel
theorem dX1_number_68 : decode cX1_number 68 = .ok (.baload, 1) := by decide +kernel
theorem dX1_number_69 : decode cX1_number 69 = .ok (.sipush 255, 3) := by decide +kernel
theorem dX1_number_72 : decode cX1_number 72 = .ok (.iand, 1) := by decide +kernel
theorem dX1_number_73 : decode cX1_number 73 = .ok (.ior, 1) := by decide +kernel
theorem dX1_number_74 : decode cX1_number 74 = .ok (.ireturn, 1) := by decide +kernel
theorem dX2_init_0 : decode cX2_init 0 = .ok (.aload_n 0, 1) := by decide +kernel
theorem dX2_init_1 : decode cX2_init 1 = .ok (.invokespecial 3, 3) := by decide +kernel
theorem dX2_init_4 : decode cX2_init 4 = .ok (.aload_n 0, 1) := by decide +kernel
theorem dX2_init_5 : decode cX2_init 5 = .ok (.bipush 16, 2) := by decide +kernel
theorem dX2_init_7 : decode cX2_init 7 = .ok (.newarray .int, 2) := by decide +kernel
theorem dX2_init_9 : decode cX2_init 9 = .ok (.putfield 11, 3) := by decide +kernel
theorem dX2_init_12 : decode cX2_init 12 = .ok (.aload_n 0, 1) := by decide +kernel
theorem dX2_init_13 : decode cX2_init 13 = .ok (.bipush 17, 2) := by decide +kernel
theorem dX2_init_15 : decode cX2_init 15 = .ok (.newarray .int, 2) := by decide +kernel
theorem dX2_init_17 : decode cX2_init 17 = .ok (.putfield 15, 3) := by decide +kernel
theorem dX2_init_20 : decode cX2_init 20 = .ok (.aload_n 0, 1) := by decide +kernel
theorem dX2_init_21 : decode cX2_init 21 = .ok (.sipush 288, 3) := by decide +kernel
theorem dX2_init_24 : decode cX2_init 24 = .ok (.newarray .int, 2) := by decide +kernel
theorem dX2_init_26 : decode cX2_init 26 = .ok (.putfield 18, 3) := by decide +kernel
theorem dX2_init_29 : decode cX2_init 29 = .ok (.return_, 1) := by decide +kernel
theorem dX2_build_0 : decode cX2_build 0 = .ok (.aload_n 0, 1) := by decide +kernel
theorem dX2_build_1 : decode cX2_build 1 = .ok (.getfield 11, 3) := by decide +kernel
theorem dX2_build_4 : decode cX2_build 4 = .ok (.iconst 0, 1) := by decide +kernel
theorem dX2_build_5 : decode cX2_build 5 = .ok (.invokestatic 21, 3) := by decide +kernel
theorem dX2_build_8 : decode cX2_build 8 = .ok (.iconst 0, 1) := by decide +kernel
theorem dX2_build_9 : decode cX2_build 9 = .ok (.istore 4, 2) := by decide +kernel
theorem dX2_build_11 : decode cX2_build 11 = .ok (.iload 4, 2) := by decide +kernel
theorem dX2_build_13 : decode cX2_build 13 = .ok (.iload_n 3, 1) := by decide +kernel
theorem dX2_build_14 : decode cX2_build 14 = .ok (.if_icmp .ge 24, 3) := by decide +kernel
theorem dX2_build_17 : decode cX2_build 17 = .ok (.aload_n 0, 1) := by decide +kernel
theorem dX2_build_18 : decode cX2_build 18 = .ok (.getfield 11, 3) := by decide +kernel
theorem dX2_build_21 : decode cX2_build 21 = .ok (.aload_n 1, 1) := by decide +kernel
theorem dX2_build_22 : decode cX2_build 22 = .ok (.iload_n 2, 1) := by decide +kernel
theorem dX2_build_23 : decode cX2_build 23 = .ok (.iload 4, 2) := by decide +kernel
theorem dX2_build_25 : decode cX2_build 25 = .ok (.iadd, 1) := by decide +kernel
theorem dX2_build_26 : decode cX2_build 26 = .ok (.iaload, 1) := by decide +kernel
theorem dX2_build_27 : decode cX2_build 27 = .ok (.dup2, 1) := by decide +kernel
theorem dX2_build_28 : decode cX2_build 28 = .ok (.iaload, 1) := by decide +kernel
theorem dX2_build_29 : decode cX2_build 29 = .ok (.iconst 1, 1) := by decide +kernel
theorem dX2_build_30 : decode cX2_build 30 = .ok (.iadd, 1) := by decide +kernel
theorem dX2_build_31 : decode cX2_build 31 = .ok (.iastore, 1) := by decide +kernel
theorem dX2_build_32 : decode cX2_build 32 = .ok (.iinc 4 1, 3) := by decide +kernel
theorem dX2_build_35 : decode cX2_build 35 = .ok (.goto (-24), 3) := by decide +kernel
theorem dX2_build_38 : decode cX2_build 38 = .ok (.aload_n 0, 1) := by decide +kernel
theorem dX2_build_39 : decode cX2_build 39 = .ok (.iload_n 3, 1) := by decide +kernel
theorem dX2_build_40 : decode cX2_build 40 = .ok (.aload_n 0, 1) := by decide +kernel
theorem dX2_build_41 : decode cX2_build 41 = .ok (.getfield 11, 3) := by decide +kernel
theorem dX2_build_44 : decode cX2_build 44 = .ok (.iconst 0, 1) := by decide +kernel
theorem dX2_build_45 : decode cX2_build 45 = .ok (.iaload, 1) := by decide +kernel
theorem dX2_build_46 : decode cX2_build 46 = .ok (.isub, 1) := by decide +kernel
theorem dX2_build_47 : decode cX2_build 47 = .ok (.putfield 27, 3) := by decide +kernel
theorem dX2_build_50 : decode cX2_build 50 = .ok (.aload_n 0, 1) := by decide +kernel
theorem dX2_build_51 : decode cX2_build 51 = .ok (.getfield 15, 3) := by decide +kernel
theorem dX2_build_54 : decode cX2_build 54 = .ok (.iconst 1, 1) := by decide +kernel
theorem dX2_build_55 : decode cX2_build 55 = .ok (.iconst 0, 1) := by decide +kernel
theorem dX2_build_56 : decode cX2_build 56 = .ok (.iastore, 1) := by decide +kernel
theorem dX2_build_57 : decode cX2_build 57 = .ok (.iconst 1, 1) := by decide +kernel
theorem dX2_build_58 : decode cX2_build 58 = .ok (.istore 4, 2) := by decide +kernel
theorem dX2_build_60 : decode cX2_build 60 = .ok (.iconst 1, 1) := by decide +kernel
theorem dX2_build_61 : decode cX2_build 61 = .ok (.istore 5, 2) := by decide +kernel
theorem dX2_build_63 : decode cX2_build 63 = .ok (.iload 5, 2) := by decide +kernel
theorem dX2_build_65 : decode cX2_build 65 = .ok (.bipush 15, 2) := by decide +kernel
theorem dX2_build_67 : decode cX2_build 67 = .ok (.if_icmp .gt 54, 3) := by decide +kernel
theorem dX2_build_70 : decode cX2_build 70 = .ok (.iload 4, 2) := by decide +kernel
theorem dX2_build_72 : decode cX2_build 72 = .ok (.iconst 2, 1) := by decide +kernel
theorem dX2_build_73 : decode cX2_build 73 = .ok (.imul, 1) := by decide +kernel
theorem dX2_build_74 : decode cX2_build 74 = .ok (.aload_n 0, 1) := by decide +kernel
theorem dX2_build_75 : decode cX2_build 75 = .ok (.getfield 11, 3) := by decide +kernel
theorem dX2_build_78 : decode cX2_build 78 = .ok (.iload 5, 2) := by decide +kernel
theorem dX2_build_80 : decode cX2_build 80 = .ok (.iaload, 1) := by decide +kernel
theorem dX2_build_81 : decode cX2_build 81 = .ok (.isub, 1) := by decide +kernel
theorem dX2_build_82 : decode cX2_build 82 = .ok (.istore 4, 2) := by decide +kernel
theorem dX2_build_84 : decode cX2_build 84 = .ok (.iload 4, 2) := by decide +kernel
theorem dX2_build_86 : decode cX2_build 86 = .ok (.ifCond .ge 5, 3) := by decide +kernel
theorem dX2_build_89 : decode cX2_build 89 = .ok (.iconst (-1), 1) := by decide +kernel
theorem dX2_build_90 : decode cX2_build 90 = .ok (.ireturn, 1) := by decide +kernel
theorem dX2_build_91 : decode cX2_build 91 = .ok (.aload_n 0, 1) := by decide +kernel
theorem dX2_build_92 : decode cX2_build 92 = .ok (.getfield 15, 3) := by decide +kernel
theorem dX2_build_95 : decode cX2_build 95 = .ok (.iload 5, 2) := by decide +kernel
theorem dX2_build_97 : decode cX2_build 97 = .ok (.iconst 1, 1) := by decide +kernel
theorem dX2_build_98 : decode cX2_build 98 = .ok (.iadd, 1) := by decide +kernel
theorem dX2_build_99 : decode cX2_build 99 = .ok (.aload_n 0, 1) := by decide +kernel
theorem dX2_build_100 : decode cX2_build 100 = .ok (.getfield 15, 3) := by decide +kernel
theorem dX2_build_103 : decode cX2_build 103 = .ok (.iload 5, 2) := by decide +kernel
theorem dX2_build_105 : decode cX2_build 105 = .ok (.iaload, 1) := by decide +kernel
theorem dX2_build_106 : decode cX2_build 106 = .ok (.aload_n 0, 1) := by decide +kernel
theorem dX2_build_107 : decode cX2_build 107 = .ok (.getfield 11, 3) := by decide +kernel
theorem dX2_build_110 : decode cX2_build 110 = .ok (.iload 5, 2) := by decide +kernel
theorem dX2_build_112 : decode cX2_build 112 = .ok (.iaload, 1) := by decide +kernel
theorem dX2_build_113 : decode cX2_build 113 = .ok (.iadd, 1) := by decide +kernel
theorem dX2_build_114 : decode cX2_build 114 = .ok (.iastore, 1) := by decide +kernel
theorem dX2_build_115 : decode cX2_build 115 = .ok (.iinc 5 1, 3) := by decide +kernel
theorem dX2_build_118 : decode cX2_build 118 = .ok (.goto (-55), 3) := by decide +kernel
theorem dX2_build_121 : decode cX2_build 121 = .ok (.iconst 0, 1) := by decide +kernel
theorem dX2_build_122 : decode cX2_build 122 = .ok (.istore 5, 2) := by decide +kernel
theorem dX2_build_124 : decode cX2_build 124 = .ok (.iload 5, 2) := by decide +kernel
theorem dX2_build_126 : decode cX2_build 126 = .ok (.iload_n 3, 1) := by decide +kernel
theorem dX2_build_127 : decode cX2_build 127 = .ok (.if_icmp .ge 47, 3) := by decide +kernel
theorem dX2_build_130 : decode cX2_build 130 = .ok (.aload_n 1, 1) := by decide +kernel
theorem dX2_build_131 : decode cX2_build 131 = .ok (.iload_n 2, 1) := by decide +kernel
theorem dX2_build_132 : decode cX2_build 132 = .ok (.iload 5, 2) := by decide +kernel
theorem dX2_build_134 : decode cX2_build 134 = .ok (.iadd, 1) := by decide +kernel
theorem dX2_build_135 : decode cX2_build 135 = .ok (.iaload, 1) := by decide +kernel
theorem dX2_build_136 : decode cX2_build 136 = .ok (.istore 6, 2) := by decide +kernel
theorem dX2_build_138 : decode cX2_build 138 = .ok (.iload 6, 2) := by decide +kernel
theorem dX2_build_140 : decode cX2_build 140 = .ok (.ifCond .eq 28, 3) := by decide +kernel
theorem dX2_build_143 : decode cX2_build 143 = .ok (.aload_n 0, 1) := by decide +kernel
theorem dX2_build_144 : decode cX2_build 144 = .ok (.getfield 18, 3) := by decide +kernel
theorem dX2_build_147 : decode cX2_build 147 = .ok (.aload_n 0, 1) := by decide +kernel
theorem dX2_build_148 : decode cX2_build 148 = .ok (.getfield 15, 3) := by decide +kernel
theorem dX2_build_151 : decode cX2_build 151 = .ok (.iload 6, 2) := by decide +kernel
theorem dX2_build_153 : decode cX2_build 153 = .ok (.iaload, 1) := by decide +kernel
theorem dX2_build_154 : decode cX2_build 154 = .ok (.iload 5, 2) := by decide +kernel
theorem dX2_build_156 : decode cX2_build 156 = .ok (.iastore, 1) := by decide +kernel
theorem dX2_build_157 : decode cX2_build 157 = .ok (.aload_n 0, 1) := by decide +kernel
theorem dX2_build_158 : decode cX2_build 158 = .ok (.getfield 15, 3) := by decide +kernel
theorem dX2_build_161 : decode cX2_build 161 = .ok (.iload 6, 2) := by decide +kernel
theorem dX2_build_163 : decode cX2_build 163 = .ok (.dup2, 1) := by decide +kernel
theorem dX2_build_164 : decode cX2_build 164 = .ok (.iaload, 1) := by decide +kernel
theorem dX2_build_165 : decode cX2_build 165 = .ok (.iconst 1, 1) := by decide +kernel
theorem dX2_build_166 : decode cX2_build 166 = .ok (.iadd, 1) := by decide +kernel
theorem dX2_build_167 : decode cX2_build 167 = .ok (.iastore, 1) := by decide +kernel
theorem dX2_build_168 : decode cX2_build 168 = .ok (.iinc 5 1, 3) := by decide +kernel
theorem dX2_build_171 : decode cX2_build 171 = .ok (.goto (-47), 3) := by decide +kernel
theorem dX2_build_174 : decode cX2_build 174 = .ok (.iload 4, 2) := by decide +kernel
theorem dX2_build_176 : decode cX2_build 176 = .ok (.ireturn, 1) := by decide +kernel
theorem dX2_isNoneOrOneBit_0 : decode cX2_isNoneOrOneBit 0 = .ok (.aload_n 0, 1) := by decide +kernel
theorem dX2_isNoneOrOneBit_1 : decode cX2_isNoneOrOneBit 1 = .ok (.getfield 27, 3) := by decide +kernel
theorem dX2_isNoneOrOneBit_4 : decode cX2_isNoneOrOneBit 4 = .ok (.ifCond .eq 21, 3) := by decide +kernel
theorem dX2_isNoneOrOneBit_7 : decode cX2_isNoneOrOneBit 7 = .ok (.aload_n 0, 1) := by decide +kernel
theorem dX2_isNoneOrOneBit_8 : decode cX2_isNoneOrOneBit 8 = .ok (.getfield 27, 3) := by decide +kernel
theorem dX2_isNoneOrOneBit_11 : decode cX2_isNoneOrOneBit 11 = .ok (.iconst 1, 1) := by decide +kernel
theorem dX2_isNoneOrOneBit_12 : decode cX2_isNoneOrOneBit 12 = .ok (.if_icmp .ne 17, 3) := by decide +kernel
theorem dX2_isNoneOrOneBit_15 : decode cX2_isNoneOrOneBit 15 = .ok (.aload_n 0, 1) := by decide +kernel
theorem dX2_isNoneOrOneBit_16 : decode cX2_isNoneOrOneBit 16 = .ok (.getfield 11, 3) := by decide +kernel
theorem dX2_isNoneOrOneBit_19 : decode cX2_isNoneOrOneBit 19 = .ok (.iconst 1, 1) := by decide +kernel
theorem dX2_isNoneOrOneBit_20 : decode cX2_isNoneOrOneBit 20 = .ok (.iaload, 1) := by decide +kernel
theorem dX2_isNoneOrOneBit_21 : decode cX2_isNoneOrOneBit 21 = .ok (.iconst 1, 1) := by decide +kernel
theorem dX2_isNoneOrOneBit_22 : decode cX2_isNoneOrOneBit 22 = .ok (.if_icmp .ne 7, 3) := by decide +kernel
theorem dX2_isNoneOrOneBit_25 : decode cX2_isNoneOrOneBit 25 = .ok (.iconst 1, 1) := by decide +kernel
theorem dX2_isNoneOrOneBit_26 : decode cX2_isNoneOrOneBit 26 = .ok (.goto 4, 3) := by decide +kernel
theorem dX2_isNoneOrOneBit_29 : decode cX2_isNoneOrOneBit 29 = .ok (.iconst 0, 1) := by decide +kernel
theorem dX2_isNoneOrOneBit_30 : decode cX2_isNoneOrOneBit 30 = .ok (.ireturn, 1) := by decide +kernel
theorem dX3_init_0 : decode cX3_init 0 = .ok (.aload_n 0, 1) := by decide +kernel
theorem dX3_init_1 : decode cX3_init 1 = .ok (.invokespecial 3, 3) := by decide +kernel
theorem dX3_init_4 : decode cX3_init 4 = .ok (.aload_n 0, 1) := by decide +kernel
theorem dX3_init_5 : decode cX3_init 5 = .ok (.sipush 256, 3) := by decide +kernel
theorem dX3_init_8 : decode cX3_init 8 = .ok (.newarray .int, 2) := by decide +kernel
theorem dX3_init_10 : decode cX3_init 10 = .ok (.putfield 9, 3) := by decide +kernel
theorem dX3_init_13 : decode cX3_init 13 = .ok (.return_, 1) := by decide +kernel
theorem dX3_clear_0 : decode cX3_clear 0 = .ok (.aload_n 0, 1) := by decide +kernel
theorem dX3_clear_1 : decode cX3_clear 1 = .ok (.getfield 9, 3) := by decide +kernel
theorem dX3_clear_4 : decode cX3_clear 4 = .ok (.iconst 0, 1) := by decide +kernel
theorem dX3_clear_5 : decode cX3_clear 5 = .ok (.invokestatic 15, 3) := by decide +kernel
theorem dX3_clear_8 : decode cX3_clear 8 = .ok (.return_, 1) := by decide +kernel
theorem dX3_fact_0 : decode cX3_fact 0 = .ok (.iload_n 1, 1) := by decide +kernel
theorem dX3_fact_1 : decode cX3_fact 1 = .ok (.tableswitch 60 5 9 #[35, 40, 45, 50, 55], 35) := by decide +kernel
theorem dX3_fact_36 : decode cX3_fact 36 = .ok (.aload_n 0, 1) := by decide +kernel
theorem dX3_fact_37 : decode cX3_fact 37 = .ok (.getfield 21, 3) := by decide +kernel
theorem dX3_fact_40 : decode cX3_fact 40 = .ok (.ireturn, 1) := by decide +kernel
theorem dX3_fact_41 : decode cX3_fact 41 = .ok (.aload_n 0, 1) := by decide +kernel
theorem dX3_fact_42 : decode cX3_fact 42 = .ok (.getfield 25, 3) := by decide +kernel
theorem dX3_fact_45 : decode cX3_fact 45 = .ok (.ireturn, 1) := by decide +kernel
theorem dX3_fact_46 : decode cX3_fact 46 = .ok (.aload_n 0, 1) := by decide +kernel
theorem dX3_fact_47 : decode cX3_fact 47 = .ok (.getfield 28, 3) := by decide +kernel
theorem dX3_fact_50 : decode cX3_fact 50 = .ok (.ireturn, 1) := by decide +kernel
theorem dX3_fact_51 : decode cX3_fact 51 = .ok (.aload_n 0, 1) := by decide +kernel
theorem dX3_fact_52 : decode cX3_fact 52 = .ok (.getfield 31, 3) := by decide +kernel
theorem dX3_fact_55 : decode cX3_fact 55 = .ok (.ireturn, 1) := by decide +kernel
theorem dX3_fact_56 : decode cX3_fact 56 = .ok (.aload_n 0, 1) := by decide +kernel
theorem dX3_fact_57 : decode cX3_fact 57 = .ok (.getfield 34, 3) := by decide +kernel
theorem dX3_fact_60 : decode cX3_fact 60 = .ok (.ireturn, 1) := by decide +kernel
theorem dX3_fact_61 : decode cX3_fact 61 = .ok (.aload_n 0, 1) := by decide +kernel
theorem dX3_fact_62 : decode cX3_fact 62 = .ok (.getfield 37, 3) := by decide +kernel
theorem dX3_fact_65 : decode cX3_fact 65 = .ok (.ireturn, 1) := by decide +kernel
theorem dX4_init_0 : decode cX4_init 0 = .ok (.aload_n 0, 1) := by decide +kernel
theorem dX4_init_1 : decode cX4_init 1 = .ok (.invokespecial 3, 3) := by decide +kernel
theorem dX4_init_4 : decode cX4_init 4 = .ok (.aload_n 0, 1) := by decide +kernel
theorem dX4_init_5 : decode cX4_init 5 = .ok (.new 9, 3) := by decide +kernel
theorem dX4_init_8 : decode cX4_init 8 = .ok (.dup, 1) := by decide +kernel
theorem dX4_init_9 : decode cX4_init 9 = .ok (.invokespecial 11, 3) := by decide +kernel
theorem dX4_init_12 : decode cX4_init 12 = .ok (.putfield 12, 3) := by decide +kernel
theorem dX4_init_15 : decode cX4_init 15 = .ok (.aload_n 0, 1) := by decide +kernel
theorem dX4_init_16 : decode cX4_init 16 = .ok (.new 18, 3) := by decide +kernel
theorem dX4_init_19 : decode cX4_init 19 = .ok (.dup, 1) := by decide +kernel
theorem dX4_init_20 : decode cX4_init 20 = .ok (.invokespecial 20, 3) := by decide +kernel
theorem dX4_init_23 : decode cX4_init 23 = .ok (.putfield 21, 3) := by decide +kernel
theorem dX4_init_26 : decode cX4_init 26 = .ok (.aload_n 0, 1) := by decide +kernel
theorem dX4_init_27 : decode cX4_init 27 = .ok (.aload_n 0, 1) := by decide +kernel
theorem dX4_init_28 : decode cX4_init 28 = .ok (.getfield 21, 3) := by decide +kernel
theorem dX4_init_31 : decode cX4_init 31 = .ok (.getfield 25, 3) := by decide +kernel
theorem dX4_init_34 : decode cX4_init 34 = .ok (.putfield 29, 3) := by decide +kernel
theorem dX4_init_37 : decode cX4_init 37 = .ok (.aload_n 0, 1) := by decide +kernel
theorem dX4_init_38 : decode cX4_init 38 = .ok (.aload_n 1, 1) := by decide +kernel
theorem dX4_init_39 : decode cX4_init 39 = .ok (.putfield 32, 3) := by decide +kernel
theorem dX4_init_42 : decode cX4_init 42 = .ok (.aload_n 0, 1) := by decide +kernel
theorem dX4_init_43 : decode cX4_init 43 = .ok (.aload_n 2, 1) := by decide +kernel
theorem dX4_init_44 : decode cX4_init 44 = .ok (.putfield 36, 3) := by decide +kernel
theorem dX4_init_47 : decode cX4_init 47 = .ok (.return_, 1) := by decide +kernel
theorem dX4_exchange_0 : decode cX4_exchange 0 = .ok (.aload_n 0, 1) := by decide +kernel
theorem dX4_exchange_1 : decode cX4_exchange 1 = .ok (.getfield 21, 3) := by decide +kernel
theorem dX4_exchange_4 : decode cX4_exchange 4 = .ok (.astore_n 2, 1) := by decide +kernel
theorem dX4_exchange_5 : decode cX4_exchange 5 = .ok (.aload_n 0, 1) := by decide +kernel
theorem dX4_exchange_6 : decode cX4_exchange 6 = .ok (.aload_n 1, 1) := by decide +kernel
theorem dX4_exchange_7 : decode cX4_exchange 7 = .ok (.putfield 21, 3) := by decide +kernel
theorem dX4_exchange_10 : decode cX4_exchange 10 = .ok (.aload_n 2, 1) := by decide +kernel
theorem dX4_exchange_11 : decode cX4_exchange 11 = .ok (.areturn, 1) := by decide +kernel
theorem dX4_run_0 : decode cX4_run 0 = .ok (.aload_n 0, 1) := by decide +kernel
theorem dX4_run_1 : decode cX4_run 1 = .ok (.iconst 0, 1) := by decide +kernel
theorem dX4_run_2 : decode cX4_run 2 = .ok (.putfield 40, 3) := by decide +kernel
theorem dX4_run_5 : decode cX4_run 5 = .ok (.aload_n 0, 1) := by decide +kernel
theorem dX4_run_6 : decode cX4_run 6 = .ok (.iconst 0, 1) := by decide +kernel
theorem dX4_run_7 : decode cX4_run 7 = .ok (.putfield 44, 3) := by decide +kernel
theorem dX4_run_10 : decode cX4_run 10 = .ok (.aload_n 0, 1) := by decide +kernel
theorem dX4_run_11 : decode cX4_run 11 = .ok (.iconst 0, 1) := by decide +kernel
theorem dX4_run_12 : decode cX4_run 12 = .ok (.putfield 47, 3) := by decide +kernel
theorem dX4_run_15 : decode cX4_run 15 = .ok (.aload_n 0, 1) := by decide +kernel
theorem dX4_run_16 : decode cX4_run 16 = .ok (.iconst 0, 1) := by decide +kernel
theorem dX4_run_17 : decode cX4_run 17 = .ok (.putfield 50, 3) := by decide +kernel
theorem dX4_run_20 : decode cX4_run 20 = .ok (.aload_n 0, 1) := by decide +kernel
theorem dX4_run_21 : decode cX4_run 21 = .ok (.invokevirtual 54, 3) := by decide +kernel
theorem dX4_run_24 : decode cX4_run 24 = .ok (.ifCond .ne 5, 3) := by decide +kernel
theorem dX4_run_27 : decode cX4_run 27 = .ok (.iconst 1, 1) := by decide +kernel
theorem dX4_run_28 : decode cX4_run 28 = .ok (.ireturn, 1) := by decide +kernel
theorem dX4_run_29 : decode cX4_run 29 = .ok (.aload_n 0, 1) := by decide +kernel
theorem dX4_run_30 : decode cX4_run 30 = .ok (.bipush 8, 2) := by decide +kernel
theorem dX4_run_32 : decode cX4_run 32 = .ok (.putfield 58, 3) := by decide +kernel
theorem dX4_run_35 : decode cX4_run 35 = .ok (.iconst 0, 1) := by decide +kernel
theorem dX4_run_36 : decode cX4_run 36 = .ok (.istore_n 1, 1) := by decide +kernel
theorem dX4_run_37 : decode cX4_run 37 = .ok (.iload_n 1, 1) := by decide +kernel
theorem dX4_run_38 : decode cX4_run 38 = .ok (.sipush 8000, 3) := by decide +kernel
theorem dX4_run_41 : decode cX4_run 41 = .ok (.if_icmp .ge 29, 3) := by decide +kernel
theorem dX4_run_44 : decode cX4_run 44 = .ok (.aload_n 0, 1) := by decide +kernel
theorem dX4_run_45 : decode cX4_run 45 = .ok (.getfield 40, 3) := by decide +kernel
theorem dX4_run_48 : decode cX4_run 48 = .ok (.ldc 61, 2) := by decide +kernel
theorem dX4_run_50 : decode cX4_run 50 = .ok (.if_icmp .eq 20, 3) := by decide +kernel
theorem dX4_run_53 : decode cX4_run 53 = .ok (.aload_n 0, 1) := by decide +kernel
theorem dX4_run_54 : decode cX4_run 54 = .ok (.invokevirtual 62, 3) := by decide +kernel
theorem dX4_run_57 : decode cX4_run 57 = .ok (.istore_n 2, 1) := by decide +kernel
theorem dX4_run_58 : decode cX4_run 58 = .ok (.iload_n 2, 1) := by decide +kernel
theorem dX4_run_59 : decode cX4_run 59 = .ok (.ifCond .eq 5, 3) := by decide +kernel
theorem dX4_run_62 : decode cX4_run 62 = .ok (.iload_n 2, 1) := by decide +kernel
theorem dX4_run_63 : decode cX4_run 63 = .ok (.ireturn, 1) := by decide +kernel
theorem dX4_run_64 : decode cX4_run 64 = .ok (.iinc 1 1, 3) := by decide +kernel
theorem dX4_run_67 : decode cX4_run 67 = .ok (.goto (-30), 3) := by decide +kernel
theorem dX4_run_70 : decode cX4_run 70 = .ok (.aload_n 0, 1) := by decide +kernel
theorem dX4_run_71 : decode cX4_run 71 = .ok (.aload_n 0, 1) := by decide +kernel
theorem dX4_run_72 : decode cX4_run 72 = .ok (.getfield 58, 3) := by decide +kernel
theorem dX4_run_75 : decode cX4_run 75 = .ok (.putfield 66, 3) := by decide +kernel
theorem dX4_run_78 : decode cX4_run 78 = .ok (.aload_n 0, 1) := by decide +kernel
theorem dX4_run_79 : decode cX4_run 79 = .ok (.getfield 58, 3) := by decide +kernel
theorem dX4_run_82 : decode cX4_run 82 = .ok (.aload_n 0, 1) := by decide +kernel
theorem dX4_run_83 : decode cX4_run 83 = .ok (.getfield 32, 3) := by decide +kernel
theorem dX4_run_86 : decode cX4_run 86 = .ok (.getfield 69, 3) := by decide +kernel
theorem dX4_run_89 : decode cX4_run 89 = .ok (.if_icmp .ge 7, 3) := by decide +kernel
theorem dX4_run_92 : decode cX4_run 92 = .ok (.iconst 4, 1) := by decide +kernel
theorem dX4_run_93 : decode cX4_run 93 = .ok (.goto 4, 3) := by decide +kernel
theorem dX4_run_96 : decode cX4_run 96 = .ok (.iconst 0, 1) := by decide +kernel
theorem dX4_run_97 : decode cX4_run 97 = .ok (.ireturn, 1) := by decide +kernel
theorem dX4_startsAsFile_0 : decode cX4_startsAsFile 0 = .ok (.iconst 0, 1) := by decide +kernel
theorem dX4_startsAsFile_1 : decode cX4_startsAsFile 1 = .ok (.istore_n 1, 1) := by decide +kernel
theorem dX4_startsAsFile_2 : decode cX4_startsAsFile 2 = .ok (.iload_n 1, 1) := by decide +kernel
theorem dX4_startsAsFile_3 : decode cX4_startsAsFile 3 = .ok (.bipush 8, 2) := by decide +kernel
theorem dX4_startsAsFile_5 : decode cX4_startsAsFile 5 = .ok (.if_icmp .ge 55, 3) := by decide +kernel
theorem dX4_startsAsFile_8 : decode cX4_startsAsFile 8 = .ok (.iload_n 1, 1) := by decide +kernel
theorem dX4_startsAsFile_9 : decode cX4_startsAsFile 9 = .ok (.iconst 4, 1) := by decide +kernel
theorem dX4_startsAsFile_10 : decode cX4_startsAsFile 10 = .ok (.if_icmp .ge 8, 3) := by decide +kernel
theorem dX4_startsAsFile_13 : decode cX4_startsAsFile 13 = .ok (.ldc 74, 2) := by decide +kernel
theorem dX4_startsAsFile_15 : decode cX4_startsAsFile 15 = .ok (.goto 5, 3) := by decide +kernel
theorem dX4_startsAsFile_18 : decode cX4_startsAsFile 18 = .ok (.ldc 75, 2) := by decide +kernel
theorem dX4_startsAsFile_20 : decode cX4_startsAsFile 20 = .ok (.istore_n 2, 1) := by decide +kernel
theorem dX4_startsAsFile_21 : decode cX4_startsAsFile 21 = .ok (.aload_n 0, 1) := by decide +kernel
theorem dX4_startsAsFile_22 : decode cX4_startsAsFile 22 = .ok (.getfield 32, 3) := by decide +kernel
theorem dX4_startsAsFile_25 : decode cX4_startsAsFile 25 = .ok (.iload_n 1, 1) := by decide +kernel
theorem dX4_startsAsFile_26 : decode cX4_startsAsFile 26 = .ok (.invokevirtual 76, 3) := by decide +kernel
theorem dX4_startsAsFile_29 : decode cX4_startsAsFile 29 = .ok (.iload_n 2, 1) := by decide +kernel
theorem dX4_startsAsFile_30 : decode cX4_startsAsFile 30 = .ok (.bipush 24, 2) := by decide +kernel
theorem dX4_startsAsFile_32 : decode cX4_startsAsFile 32 = .ok (.iload_n 1, 1) := by decide +kernel
theorem dX4_startsAsFile_33 : decode cX4_startsAsFile 33 = .ok (.iconst 4, 1) := by decide +kernel
theorem dX4_startsAsFile_34 : decode cX4_startsAsFile 34 = .ok (.irem, 1) := by decide +kernel
theorem dX4_startsAsFile_35 : decode cX4_startsAsFile 35 = .ok (.bipush 8, 2) := by decide +kernel
theorem dX4_startsAsFile_37 : decode cX4_startsAsFile 37 = .ok (.imul, 1) := by decide +kernel
theorem dX4_startsAsFile_38 : decode cX4_startsAsFile 38 = .ok (.isub, 1) := by decide +kernel
theorem dX4_startsAsFile_39 : decode cX4_startsAsFile 39 = .ok (.iushr, 1) := by decide +kernel
theorem dX4_startsAsFile_40 : decode cX4_startsAsFile 40 = .ok (.sipush 255, 3) := by decide +kernel
theorem dX4_startsAsFile_43 : decode cX4_startsAsFile 43 = .ok (.iand, 1) := by decide +kernel
theorem dX4_startsAsFile_44 : decode cX4_startsAsFile 44 = .ok (.if_icmp .eq 10, 3) := by decide +kernel
theorem dX4_startsAsFile_47 : decode cX4_startsAsFile 47 = .ok (.aload_n 0, 1) := by decide +kernel
theorem dX4_startsAsFile_48 : decode cX4_startsAsFile 48 = .ok (.iload_n 1, 1) := by decide +kernel
theorem dX4_startsAsFile_49 : decode cX4_startsAsFile 49 = .ok (.putfield 66, 3) := by decide +kernel
theorem dX4_startsAsFile_52 : decode cX4_startsAsFile 52 = .ok (.iconst 0, 1) := by decide +kernel
theorem dX4_startsAsFile_53 : decode cX4_startsAsFile 53 = .ok (.ireturn, 1) := by decide +kernel
theorem dX4_startsAsFile_54 : decode cX4_startsAsFile 54 = .ok (.iinc 1 1, 3) := by decide +kernel
theorem dX4_startsAsFile_57 : decode cX4_startsAsFile 57 = .ok (.goto (-55), 3) := by decide +kernel
theorem dX4_startsAsFile_60 : decode cX4_startsAsFile 60 = .ok (.iconst 1, 1) := by decide +kernel
theorem dX4_startsAsFile_61 : decode cX4_startsAsFile 61 = .ok (.ireturn, 1) := by decide +kernel
theorem dX4_chunkFault_0 : decode cX4_chunkFault 0 = .ok (.aload_n 0, 1) := by decide +kernel
theorem dX4_chunkFault_1 : decode cX4_chunkFault 1 = .ok (.getfield 32, 3) := by decide +kernel
theorem dX4_chunkFault_4 : decode cX4_chunkFault 4 = .ok (.getfield 69, 3) := by decide +kernel
theorem dX4_chunkFault_7 : decode cX4_chunkFault 7 = .ok (.aload_n 0, 1) := by decide +kernel
theorem dX4_chunkFault_8 : decode cX4_chunkFault 8 = .ok (.getfield 58, 3) := by decide +kernel
theorem dX4_chunkFault_11 : decode cX4_chunkFault 11 = .ok (.isub, 1) := by decide +kernel
theorem dX4_chunkFault_12 : decode cX4_chunkFault 12 = .ok (.bipush 12, 2) := by decide +kernel
theorem dX4_chunkFault_14 : decode cX4_chunkFault 14 = .ok (.isub, 1) := by decide +kernel
theorem dX4_chunkFault_15 : decode cX4_chunkFault 15 = .ok (.istore_n 1, 1) := by decide +kernel
theorem dX4_chunkFault_16 : decode cX4_chunkFault 16 = .ok (.aload_n 0, 1) := by decide +kernel
theorem dX4_chunkFault_17 : decode cX4_chunkFault 17 = .ok (.getfield 32, 3) := by decide +kernel
theorem dX4_chunkFault_20 : decode cX4_chunkFault 20 = .ok (.aload_n 0, 1) := by decide +kernel
theorem dX4_chunkFault_21 : decode cX4_chunkFault 21 = .ok (.getfield 58, 3) := by decide +kernel
theorem dX4_chunkFault_24 : decode cX4_chunkFault 24 = .ok (.invokevirtual 79, 3) := by decide +kernel
theorem dX4_chunkFault_27 : decode cX4_chunkFault 27 = .ok (.istore_n 2, 1) := by decide +kernel
theorem dX4_chunkFault_28 : decode cX4_chunkFault 28 = .ok (.iload_n 1, 1) := by decide +kernel
theorem dX4_chunkFault_29 : decode cX4_chunkFault 29 = .ok (.ifCond .lt 12, 3) := by decide +kernel
theorem dX4_chunkFault_32 : decode cX4_chunkFault 32 = .ok (.iload_n 2, 1) := by decide +kernel
theorem dX4_chunkFault_33 : decode cX4_chunkFault 33 = .ok (.ifCond .lt 8, 3) := by decide +kernel
theorem dX4_chunkFault_36 : decode cX4_chunkFault 36 = .ok (.iload_n 2, 1) := by decide +kernel
theorem dX4_chunkFault_37 : decode cX4_chunkFault 37 = .ok (.iload_n 1, 1) := by decide +kernel
theorem dX4_chunkFault_38 : decode cX4_chunkFault 38 = .ok (.if_icmp .le 16, 3) := by decide +kernel
theorem dX4_chunkFault_41 : decode cX4_chunkFault 41 = .ok (.aload_n 0, 1) := by decide +kernel
theorem dX4_chunkFault_42 : decode cX4_chunkFault 42 = .ok (.aload_n 0, 1) := by decide +kernel
theorem dX4_chunkFault_43 : decode cX4_chunkFault 43 = .ok (.getfield 32, 3) := by decide +kernel
theorem dX4_chunkFault_46 : decode cX4_chunkFault 46 = .ok (.getfield 69, 3) := by decide +kernel
theorem dX4_chunkFault_49 : decode cX4_chunkFault 49 = .ok (.putfield 66, 3) := by decide +kernel
theorem dX4_chunkFault_52 : decode cX4_chunkFault 52 = .ok (.iconst 2, 1) := by decide +kernel
theorem dX4_chunkFault_53 : decode cX4_chunkFault 53 = .ok (.ireturn, 1) := by decide +kernel
theorem dX4_chunkFault_54 : decode cX4_chunkFault 54 = .ok (.aload_n 0, 1) := by decide +kernel
theorem dX4_chunkFault_55 : decode cX4_chunkFault 55 = .ok (.aload_n 0, 1) := by decide +kernel
theorem dX4_chunkFault_56 : decode cX4_chunkFault 56 = .ok (.getfield 58, 3) := by decide +kernel
theorem dX4_chunkFault_59 : decode cX4_chunkFault 59 = .ok (.iconst 4, 1) := by decide +kernel
theorem dX4_chunkFault_60 : decode cX4_chunkFault 60 = .ok (.iadd, 1) := by decide +kernel
theorem dX4_chunkFault_61 : decode cX4_chunkFault 61 = .ok (.putfield 66, 3) := by decide +kernel
theorem dX4_chunkFault_64 : decode cX4_chunkFault 64 = .ok (.aload_n 0, 1) := by decide +kernel
theorem dX4_chunkFault_65 : decode cX4_chunkFault 65 = .ok (.getfield 58, 3) := by decide +kernel
theorem dX4_chunkFault_68 : decode cX4_chunkFault 68 = .ok (.bipush 8, 2) := by decide +kernel
theorem dX4_chunkFault_70 : decode cX4_chunkFault 70 = .ok (.iadd, 1) := by decide +kernel
theorem dX4_chunkFault_71 : decode cX4_chunkFault 71 = .ok (.iload_n 2, 1) := by decide +kernel
theorem dX4_chunkFault_72 : decode cX4_chunkFault 72 = .ok (.iadd, 1) := by decide +kernel
theorem dX4_chunkFault_73 : decode cX4_chunkFault 73 = .ok (.istore_n 3, 1) := by decide +kernel
theorem dX4_chunkFault_74 : decode cX4_chunkFault 74 = .ok (.aload_n 0, 1) := by decide +kernel
theorem dX4_chunkFault_75 : decode cX4_chunkFault 75 = .ok (.getfield 36, 3) := by decide +kernel
theorem dX4_chunkFault_78 : decode cX4_chunkFault 78 = .ok (.aload_n 0, 1) := by decide +kernel
theorem dX4_chunkFault_79 : decode cX4_chunkFault 79 = .ok (.getfield 32, 3) := by decide +kernel
theorem dX4_chunkFault_82 : decode cX4_chunkFault 82 = .ok (.aload_n 0, 1) := by decide +kernel
theorem dX4_chunkFault_83 : decode cX4_chunkFault 83 = .ok (.getfield 58, 3) := by decide +kernel
theorem dX4_chunkFault_86 : decode cX4_chunkFault 86 = .ok (.iconst 4, 1) := by decide +kernel
theorem dX4_chunkFault_87 : decode cX4_chunkFault 87 = .ok (.iadd, 1) := by decide +kernel
theorem dX4_chunkFault_88 : decode cX4_chunkFault 88 = .ok (.iload_n 3, 1) := by decide +kernel
theorem dX4_chunkFault_89 : decode cX4_chunkFault 89 = .ok (.invokevirtual 82, 3) := by decide +kernel
theorem dX4_chunkFault_92 : decode cX4_chunkFault 92 = .ok (.aload_n 0, 1) := by decide +kernel
theorem dX4_chunkFault_93 : decode cX4_chunkFault 93 = .ok (.getfield 32, 3) := by decide +kernel
theorem dX4_chunkFault_96 : decode cX4_chunkFault 96 = .ok (.iload_n 3, 1) := by decide +kernel
theorem dX4_chunkFault_97 : decode cX4_chunkFault 97 = .ok (.invokevirtual 79, 3) := by decide +kernel
theorem dX4_chunkFault_100 : decode cX4_chunkFault 100 = .ok (.if_icmp .eq 5, 3) := by decide +kernel
theorem dX4_chunkFault_103 : decode cX4_chunkFault 103 = .ok (.iconst 3, 1) := by decide +kernel
theorem dX4_chunkFault_104 : decode cX4_chunkFault 104 = .ok (.ireturn, 1) := by decide +kernel
theorem dX4_chunkFault_105 : decode cX4_chunkFault 105 = .ok (.aload_n 0, 1) := by decide +kernel
theorem dX4_chunkFault_106 : decode cX4_chunkFault 106 = .ok (.getfield 32, 3) := by decide +kernel
theorem dX4_chunkFault_109 : decode cX4_chunkFault 109 = .ok (.aload_n 0, 1) := by decide +kernel
theorem dX4_chunkFault_110 : decode cX4_chunkFault 110 = .ok (.getfield 58, 3) := by decide +kernel
theorem dX4_chunkFault_113 : decode cX4_chunkFault 113 = .ok (.iconst 4, 1) := by decide +kernel
theorem dX4_chunkFault_114 : decode cX4_chunkFault 114 = .ok (.iadd, 1) := by decide +kernel
theorem dX4_chunkFault_115 : decode cX4_chunkFault 115 = .ok (.invokevirtual 79, 3) := by decide +kernel
theorem dX4_chunkFault_118 : decode cX4_chunkFault 118 = .ok (.istore 4, 2) := by decide +kernel
theorem dX4_chunkFault_120 : decode cX4_chunkFault 120 = .ok (.iload 4, 2) := by decide +kernel
theorem dX4_chunkFault_122 : decode cX4_chunkFault 122 = .ok (.aload_n 0, 1) := by decide +kernel
theorem dX4_chunkFault_123 : decode cX4_chunkFault 123 = .ok (.getfield 40, 3) := by decide +kernel
theorem dX4_chunkFault_126 : decode cX4_chunkFault 126 = .ok (.if_icmp .eq 53, 3) := by decide +kernel
theorem dX4_chunkFault_129 : decode cX4_chunkFault 129 = .ok (.aload_n 0, 1) := by decide +kernel
theorem dX4_chunkFault_130 : decode cX4_chunkFault 130 = .ok (.getfield 40, 3) := by decide +kernel
theorem dX4_chunkFault_133 : decode cX4_chunkFault 133 = .ok (.ldc 88, 2) := by decide +kernel
theorem dX4_chunkFault_135 : decode cX4_chunkFault 135 = .ok (.if_icmp .eq 12, 3) := by decide +kernel
theorem dX4_chunkFault_138 : decode cX4_chunkFault 138 = .ok (.aload_n 0, 1) := by decide +kernel
theorem dX4_chunkFault_139 : decode cX4_chunkFault 139 = .ok (.getfield 40, 3) := by decide +kernel
theorem dX4_chunkFault_142 : decode cX4_chunkFault 142 = .ok (.ldc 89, 2) := by decide +kernel
theorem dX4_chunkFault_144 : decode cX4_chunkFault 144 = .ok (.if_icmp .ne 35, 3) := by decide +kernel
theorem dX4_chunkFault_147 : decode cX4_chunkFault 147 = .ok (.aload_n 0, 1) := by decide +kernel
theorem dX4_chunkFault_148 : decode cX4_chunkFault 148 = .ok (.getfield 12, 3) := by decide +kernel
theorem dX4_chunkFault_151 : decode cX4_chunkFault 151 = .ok (.invokevirtual 90, 3) := by decide +kernel
theorem dX4_chunkFault_154 : decode cX4_chunkFault 154 = .ok (.ifCond .ne 5, 3) := by decide +kernel
theorem dX4_chunkFault_157 : decode cX4_chunkFault 157 = .ok (.iconst 5, 1) := by decide +kernel
theorem dX4_chunkFault_158 : decode cX4_chunkFault 158 = .ok (.ireturn, 1) := by decide +kernel
theorem dX4_chunkFault_159 : decode cX4_chunkFault 159 = .ok (.aload_n 0, 1) := by decide +kernel
theorem dX4_chunkFault_160 : decode cX4_chunkFault 160 = .ok (.getfield 29, 3) := by decide +kernel
theorem dX4_chunkFault_163 : decode cX4_chunkFault 163 = .ok (.aload_n 0, 1) := by decide +kernel
theorem dX4_chunkFault_164 : decode cX4_chunkFault 164 = .ok (.getfield 12, 3) := by decide +kernel
theorem dX4_chunkFault_167 : decode cX4_chunkFault 167 = .ok (.getfield 93, 3) := by decide +kernel
theorem dX4_chunkFault_170 : decode cX4_chunkFault 170 = .ok (.invokestatic 96, 3) := by decide +kernel
theorem dX4_chunkFault_173 : decode cX4_chunkFault 173 = .ok (.ifCond .ne 6, 3) := by decide +kernel
theorem dX4_chunkFault_176 : decode cX4_chunkFault 176 = .ok (.bipush 6, 2) := by decide +kernel
theorem dX4_chunkFault_178 : decode cX4_chunkFault 178 = .ok (.ireturn, 1) := by decide +kernel
theorem dX4_chunkFault_179 : decode cX4_chunkFault 179 = .ok (.aload_n 0, 1) := by decide +kernel
theorem dX4_chunkFault_180 : decode cX4_chunkFault 180 = .ok (.iload 4, 2) := by decide +kernel
theorem dX4_chunkFault_182 : decode cX4_chunkFault 182 = .ok (.iload_n 2, 1) := by decide +kernel
theorem dX4_chunkFault_183 : decode cX4_chunkFault 183 = .ok (.invokevirtual 102, 3) := by decide +kernel
theorem dX4_chunkFault_186 : decode cX4_chunkFault 186 = .ok (.ifCond .ne 5, 3) := by decide +kernel
theorem dX4_chunkFault_189 : decode cX4_chunkFault 189 = .ok (.iconst 4, 1) := by decide +kernel
theorem dX4_chunkFault_190 : decode cX4_chunkFault 190 = .ok (.ireturn, 1) := by decide +kernel
theorem dX4_chunkFault_191 : decode cX4_chunkFault 191 = .ok (.aload_n 0, 1) := by decide +kernel
theorem dX4_chunkFault_192 : decode cX4_chunkFault 192 = .ok (.iload 4, 2) := by decide +kernel
theorem dX4_chunkFault_194 : decode cX4_chunkFault 194 = .ok (.putfield 40, 3) := by decide +kernel
theorem dX4_chunkFault_197 : decode cX4_chunkFault 197 = .ok (.aload_n 0, 1) := by decide +kernel
theorem dX4_chunkFault_198 : decode cX4_chunkFault 198 = .ok (.iload_n 3, 1) := by decide +kernel
theorem dX4_chunkFault_199 : decode cX4_chunkFault 199 = .ok (.iconst 4, 1) := by decide +kernel
theorem dX4_chunkFault_200 : decode cX4_chunkFault 200 = .ok (.iadd, 1) := by decide +kernel
theorem dX4_chunkFault_201 : decode cX4_chunkFault 201 = .ok (.putfield 58, 3) := by decide +kernel
theorem dX4_chunkFault_204 : decode cX4_chunkFault 204 = .ok (.iconst 0, 1) := by decide +kernel
theorem dX4_chunkFault_205 : decode cX4_chunkFault 205 = .ok (.ireturn, 1) := by decide +kernel
theorem dX4_takesChunk_0 : decode cX4_takesChunk 0 = .ok (.aload_n 0, 1) := by decide +kernel
theorem dX4_takesChunk_1 : decode cX4_takesChunk 1 = .ok (.getfield 40, 3) := by decide +kernel
theorem dX4_takesChunk_4 : decode cX4_takesChunk 4 = .ok (.ifCond .ne 35, 3) := by decide +kernel
theorem dX4_takesChunk_7 : decode cX4_takesChunk 7 = .ok (.iload_n 1, 1) := by decide +kernel
theorem dX4_takesChunk_8 : decode cX4_takesChunk 8 = .ok (.ldc 106, 2) := by decide +kernel
theorem dX4_takesChunk_10 : decode cX4_takesChunk 10 = .ok (.if_icmp .ne 27, 3) := by decide +kernel
theorem dX4_takesChunk_13 : decode cX4_takesChunk 13 = .ok (.iload_n 2, 1) := by decide +kernel
theorem dX4_takesChunk_14 : decode cX4_takesChunk 14 = .ok (.bipush 13, 2) := by decide +kernel
theorem dX4_takesChunk_16 : decode cX4_takesChunk 16 = .ok (.if_icmp .ne 21, 3) := by decide +kernel
theorem dX4_takesChunk_19 : decode cX4_takesChunk 19 = .ok (.aload_n 0, 1) := by decide +kernel
theorem dX4_takesChunk_20 : decode cX4_takesChunk 20 = .ok (.aload_n 0, 1) := by decide +kernel
theorem dX4_takesChunk_21 : decode cX4_takesChunk 21 = .ok (.getfield 58, 3) := by decide +kernel
theorem dX4_takesChunk_24 : decode cX4_takesChunk 24 = .ok (.bipush 8, 2) := by decide +kernel
theorem dX4_takesChunk_26 : decode cX4_takesChunk 26 = .ok (.iadd, 1) := by decide +kernel
theorem dX4_takesChunk_27 : decode cX4_takesChunk 27 = .ok (.invokevirtual 107, 3) := by decide +kernel
theorem dX4_takesChunk_30 : decode cX4_takesChunk 30 = .ok (.ifCond .eq 7, 3) := by decide +kernel
theorem dX4_takesChunk_33 : decode cX4_takesChunk 33 = .ok (.iconst 1, 1) := by decide +kernel
theorem dX4_takesChunk_34 : decode cX4_takesChunk 34 = .ok (.goto 4, 3) := by decide +kernel
theorem dX4_takesChunk_37 : decode cX4_takesChunk 37 = .ok (.iconst 0, 1) := by decide +kernel
theorem dX4_takesChunk_38 : decode cX4_takesChunk 38 = .ok (.ireturn, 1) := by decide +kernel
theorem dX4_takesChunk_39 : decode cX4_takesChunk 39 = .ok (.iload_n 1, 1) := by decide +kernel
theorem dX4_takesChunk_40 : decode cX4_takesChunk 40 = .ok (.lookupswitch 179 #[(1229209940, 114), (1229278788, 139), (1229472850, 60), (1633899596, 62), (1717785676, 88), (1717846356, 120)], 60) := by decide +kernel
theorem dX4_takesChunk_100 : decode cX4_takesChunk 100 = .ok (.iconst 0, 1) := by decide +kernel
theorem dX4_takesChunk_101 : decode cX4_takesChunk 101 = .ok (.ireturn, 1) := by decide +kernel
theorem dX4_takesChunk_102 : decode cX4_takesChunk 102 = .ok (.iload_n 2, 1) := by decide +kernel
theorem dX4_takesChunk_103 : decode cX4_takesChunk 103 = .ok (.bipush 8, 2) := by decide +kernel
theorem dX4_takesChunk_105 : decode cX4_takesChunk 105 = .ok (.if_icmp .ne 21, 3) := by decide +kernel
theorem dX4_takesChunk_108 : decode cX4_takesChunk 108 = .ok (.aload_n 0, 1) := by decide +kernel
theorem dX4_takesChunk_109 : decode cX4_takesChunk 109 = .ok (.aload_n 0, 1) := by decide +kernel
theorem dX4_takesChunk_110 : decode cX4_takesChunk 110 = .ok (.getfield 58, 3) := by decide +kernel
theorem dX4_takesChunk_113 : decode cX4_takesChunk 113 = .ok (.bipush 8, 2) := by decide +kernel
theorem dX4_takesChunk_115 : decode cX4_takesChunk 115 = .ok (.iadd, 1) := by decide +kernel
theorem dX4_takesChunk_116 : decode cX4_takesChunk 116 = .ok (.invokevirtual 111, 3) := by decide +kernel
theorem dX4_takesChunk_119 : decode cX4_takesChunk 119 = .ok (.ifCond .eq 7, 3) := by decide +kernel
theorem dX4_takesChunk_122 : decode cX4_takesChunk 122 = .ok (.iconst 1, 1) := by decide +kernel
theorem dX4_takesChunk_123 : decode cX4_takesChunk 123 = .ok (.goto 4, 3) := by decide +kernel
theorem dX4_takesChunk_126 : decode cX4_takesChunk 126 = .ok (.iconst 0, 1) := by decide +kernel
theorem dX4_takesChunk_127 : decode cX4_takesChunk 127 = .ok (.ireturn, 1) := by decide +kernel
theorem dX4_takesChunk_128 : decode cX4_takesChunk 128 = .ok (.iload_n 2, 1) := by decide +kernel
theorem dX4_takesChunk_129 : decode cX4_takesChunk 129 = .ok (.bipush 26, 2) := by decide +kernel
theorem dX4_takesChunk_131 : decode cX4_takesChunk 131 = .ok (.if_icmp .ne 21, 3) := by decide +kernel
theorem dX4_takesChunk_134 : decode cX4_takesChunk 134 = .ok (.aload_n 0, 1) := by decide +kernel
theorem dX4_takesChunk_135 : decode cX4_takesChunk 135 = .ok (.aload_n 0, 1) := by decide +kernel
theorem dX4_takesChunk_136 : decode cX4_takesChunk 136 = .ok (.getfield 58, 3) := by decide +kernel
theorem dX4_takesChunk_139 : decode cX4_takesChunk 139 = .ok (.bipush 8, 2) := by decide +kernel
theorem dX4_takesChunk_141 : decode cX4_takesChunk 141 = .ok (.iadd, 1) := by decide +kernel
theorem dX4_takesChunk_142 : decode cX4_takesChunk 142 = .ok (.invokevirtual 114, 3) := by decide +kernel
theorem dX4_takesChunk_145 : decode cX4_takesChunk 145 = .ok (.ifCond .eq 7, 3) := by decide +kernel
theorem dX4_takesChunk_148 : decode cX4_takesChunk 148 = .ok (.iconst 1, 1) := by decide +kernel
theorem dX4_takesChunk_149 : decode cX4_takesChunk 149 = .ok (.goto 4, 3) := by decide +kernel
theorem dX4_takesChunk_152 : decode cX4_takesChunk 152 = .ok (.iconst 0, 1) := by decide +kernel
theorem dX4_takesChunk_153 : decode cX4_takesChunk 153 = .ok (.ireturn, 1) := by decide +kernel
theorem dX4_takesChunk_154 : decode cX4_takesChunk 154 = .ok (.aload_n 0, 1) := by decide +kernel
theorem dX4_takesChunk_155 : decode cX4_takesChunk 155 = .ok (.iload_n 2, 1) := by decide +kernel
theorem dX4_takesChunk_156 : decode cX4_takesChunk 156 = .ok (.invokevirtual 117, 3) := by decide +kernel
theorem dX4_takesChunk_159 : decode cX4_takesChunk 159 = .ok (.ireturn, 1) := by decide +kernel
theorem dX4_takesChunk_160 : decode cX4_takesChunk 160 = .ok (.iload_n 2, 1) := by decide +kernel
theorem dX4_takesChunk_161 : decode cX4_takesChunk 161 = .ok (.iconst 4, 1) := by decide +kernel
theorem dX4_takesChunk_162 : decode cX4_takesChunk 162 = .ok (.if_icmp .lt 15, 3) := by decide +kernel
theorem dX4_takesChunk_165 : decode cX4_takesChunk 165 = .ok (.aload_n 0, 1) := by decide +kernel
theorem dX4_takesChunk_166 : decode cX4_takesChunk 166 = .ok (.iload_n 2, 1) := by decide +kernel
theorem dX4_takesChunk_167 : decode cX4_takesChunk 167 = .ok (.invokevirtual 120, 3) := by decide +kernel
theorem dX4_takesChunk_170 : decode cX4_takesChunk 170 = .ok (.ifCond .eq 7, 3) := by decide +kernel
theorem dX4_takesChunk_173 : decode cX4_takesChunk 173 = .ok (.iconst 1, 1) := by decide +kernel
theorem dX4_takesChunk_174 : decode cX4_takesChunk 174 = .ok (.goto 4, 3) := by decide +kernel
theorem dX4_takesChunk_177 : decode cX4_takesChunk 177 = .ok (.iconst 0, 1) := by decide +kernel
theorem dX4_takesChunk_178 : decode cX4_takesChunk 178 = .ok (.ireturn, 1) := by decide +kernel
theorem dX4_takesChunk_179 : decode cX4_takesChunk 179 = .ok (.iload_n 2, 1) := by decide +kernel
theorem dX4_takesChunk_180 : decode cX4_takesChunk 180 = .ok (.ifCond .ne 37, 3) := by decide +kernel
theorem dX4_takesChunk_183 : decode cX4_takesChunk 183 = .ok (.aload_n 0, 1) := by decide +kernel
theorem dX4_takesChunk_184 : decode cX4_takesChunk 184 = .ok (.getfield 50, 3) := by decide +kernel
theorem dX4_takesChunk_187 : decode cX4_takesChunk 187 = .ok (.ifCond .eq 30, 3) := by decide +kernel
theorem dX4_takesChunk_190 : decode cX4_takesChunk 190 = .ok (.aload_n 0, 1) := by decide +kernel
theorem dX4_takesChunk_191 : decode cX4_takesChunk 191 = .ok (.getfield 40, 3) := by decide +kernel
theorem dX4_takesChunk_194 : decode cX4_takesChunk 194 = .ok (.ldc 123, 2) := by decide +kernel
theorem dX4_takesChunk_196 : decode cX4_takesChunk 196 = .ok (.if_icmp .eq 21, 3) := by decide +kernel
theorem dX4_takesChunk_199 : decode cX4_takesChunk 199 = .ok (.aload_n 0, 1) := by decide +kernel
theorem dX4_takesChunk_200 : decode cX4_takesChunk 200 = .ok (.getfield 21, 3) := by decide +kernel
theorem dX4_takesChunk_203 : decode cX4_takesChunk 203 = .ok (.getfield 124, 3) := by decide +kernel
theorem dX4_takesChunk_206 : decode cX4_takesChunk 206 = .ok (.aload_n 0, 1) := by decide +kernel
theorem dX4_takesChunk_207 : decode cX4_takesChunk 207 = .ok (.getfield 47, 3) := by decide +kernel
theorem dX4_takesChunk_210 : decode cX4_takesChunk 210 = .ok (.if_icmp .ne 7, 3) := by decide +kernel
theorem dX4_takesChunk_213 : decode cX4_takesChunk 213 = .ok (.iconst 1, 1) := by decide +kernel
theorem dX4_takesChunk_214 : decode cX4_takesChunk 214 = .ok (.goto 4, 3) := by decide +kernel
theorem dX4_takesChunk_217 : decode cX4_takesChunk 217 = .ok (.iconst 0, 1) := by decide +kernel
theorem dX4_takesChunk_218 : decode cX4_takesChunk 218 = .ok (.ireturn, 1) := by decide +kernel
theorem dX4_takesChunk_219 : decode cX4_takesChunk 219 = .ok (.aload_n 0, 1) := by decide +kernel
theorem dX4_takesChunk_220 : decode cX4_takesChunk 220 = .ok (.getfield 40, 3) := by decide +kernel
theorem dX4_takesChunk_223 : decode cX4_takesChunk 223 = .ok (.ldc 123, 2) := by decide +kernel
theorem dX4_takesChunk_225 : decode cX4_takesChunk 225 = .ok (.if_icmp .eq 20, 3) := by decide +kernel
theorem dX4_takesChunk_228 : decode cX4_takesChunk 228 = .ok (.aload_n 0, 1) := by decide +kernel
theorem dX4_takesChunk_229 : decode cX4_takesChunk 229 = .ok (.aload_n 0, 1) := by decide +kernel
theorem dX4_takesChunk_230 : decode cX4_takesChunk 230 = .ok (.getfield 58, 3) := by decide +kernel
theorem dX4_takesChunk_233 : decode cX4_takesChunk 233 = .ok (.iconst 4, 1) := by decide +kernel
theorem dX4_takesChunk_234 : decode cX4_takesChunk 234 = .ok (.iadd, 1) := by decide +kernel
theorem dX4_takesChunk_235 : decode cX4_takesChunk 235 = .ok (.invokevirtual 127, 3) := by decide +kernel
theorem dX4_takesChunk_238 : decode cX4_takesChunk 238 = .ok (.ifCond .eq 7, 3) := by decide +kernel
theorem dX4_takesChunk_241 : decode cX4_takesChunk 241 = .ok (.iconst 1, 1) := by decide +kernel
theorem dX4_takesChunk_242 : decode cX4_takesChunk 242 = .ok (.goto 4, 3) := by decide +kernel
theorem dX4_takesChunk_245 : decode cX4_takesChunk 245 = .ok (.iconst 0, 1) := by decide +kernel
theorem dX4_takesChunk_246 : decode cX4_takesChunk 246 = .ok (.ireturn, 1) := by decide +kernel
theorem dX4_takesHead_0 : decode cX4_takesHead 0 = .ok (.aload_n 0, 1) := by decide +kernel
theorem dX4_takesHead_1 : decode cX4_takesHead 1 = .ok (.getfield 32, 3) := by decide +kernel
theorem dX4_takesHead_4 : decode cX4_takesHead 4 = .ok (.iload_n 1, 1) := by decide +kernel
theorem dX4_takesHead_5 : decode cX4_takesHead 5 = .ok (.invokevirtual 79, 3) := by decide +kernel
theorem dX4_takesHead_8 : decode cX4_takesHead 8 = .ok (.istore_n 2, 1) := by decide +kernel
theorem dX4_takesHead_9 : decode cX4_takesHead 9 = .ok (.aload_n 0, 1) := by decide +kernel
theorem dX4_takesHead_10 : decode cX4_takesHead 10 = .ok (.getfield 32, 3) := by decide +kernel
theorem dX4_takesHead_13 : decode cX4_takesHead 13 = .ok (.iload_n 1, 1) := by decide +kernel
theorem dX4_takesHead_14 : decode cX4_takesHead 14 = .ok (.iconst 4, 1) := by decide +kernel
theorem dX4_takesHead_15 : decode cX4_takesHead 15 = .ok (.iadd, 1) := by decide +kernel
theorem dX4_takesHead_16 : decode cX4_takesHead 16 = .ok (.invokevirtual 79, 3) := by decide +kernel
theorem dX4_takesHead_19 : decode cX4_takesHead 19 = .ok (.istore_n 3, 1) := by decide +kernel
theorem dX4_takesHead_20 : decode cX4_takesHead 20 = .ok (.iload_n 2, 1) := by decide +kernel
theorem dX4_takesHead_21 : decode cX4_takesHead 21 = .ok (.iconst 1, 1) := by decide +kernel
theorem dX4_takesHead_22 : decode cX4_takesHead 22 = .ok (.if_icmp .lt 20, 3) := by decide +kernel
theorem dX4_takesHead_25 : decode cX4_takesHead 25 = .ok (.iload_n 2, 1) := by decide +kernel
theorem dX4_takesHead_26 : decode cX4_takesHead 26 = .ok (.bipush 16, 2) := by decide +kernel
theorem dX4_takesHead_28 : decode cX4_takesHead 28 = .ok (.if_icmp .gt 14, 3) := by decide +kernel
theorem dX4_takesHead_31 : decode cX4_takesHead 31 = .ok (.iload_n 3, 1) := by decide +kernel
theorem dX4_takesHead_32 : decode cX4_takesHead 32 = .ok (.iconst 1, 1) := by decide +kernel
theorem dX4_takesHead_33 : decode cX4_takesHead 33 = .ok (.if_icmp .lt 9, 3) := by decide +kernel
theorem dX4_takesHead_36 : decode cX4_takesHead 36 = .ok (.iload_n 3, 1) := by decide +kernel
theorem dX4_takesHead_37 : decode cX4_takesHead 37 = .ok (.bipush 16, 2) := by decide +kernel
theorem dX4_takesHead_39 : decode cX4_takesHead 39 = .ok (.if_icmp .le 5, 3) := by decide +kernel
theorem dX4_takesHead_42 : decode cX4_takesHead 42 = .ok (.iconst 0, 1) := by decide +kernel
theorem dX4_takesHead_43 : decode cX4_takesHead 43 = .ok (.ireturn, 1) := by decide +kernel
theorem dX4_takesHead_44 : decode cX4_takesHead 44 = .ok (.aload_n 0, 1) := by decide +kernel
theorem dX4_takesHead_45 : decode cX4_takesHead 45 = .ok (.getfield 21, 3) := by decide +kernel
theorem dX4_takesHead_48 : decode cX4_takesHead 48 = .ok (.iload_n 2, 1) := by decide +kernel
theorem dX4_takesHead_49 : decode cX4_takesHead 49 = .ok (.iload_n 3, 1) := by decide +kernel
theorem dX4_takesHead_50 : decode cX4_takesHead 50 = .ok (.invokevirtual 130, 3) := by decide +kernel
theorem dX4_takesHead_53 : decode cX4_takesHead 53 = .ok (.aload_n 0, 1) := by decide +kernel
theorem dX4_takesHead_54 : decode cX4_takesHead 54 = .ok (.getfield 32, 3) := by decide +kernel
theorem dX4_takesHead_57 : decode cX4_takesHead 57 = .ok (.iload_n 1, 1) := by decide +kernel
theorem dX4_takesHead_58 : decode cX4_takesHead 58 = .ok (.bipush 8, 2) := by decide +kernel
theorem dX4_takesHead_60 : decode cX4_takesHead 60 = .ok (.iadd, 1) := by decide +kernel
theorem dX4_takesHead_61 : decode cX4_takesHead 61 = .ok (.invokevirtual 76, 3) := by decide +kernel
theorem dX4_takesHead_64 : decode cX4_takesHead 64 = .ok (.bipush 8, 2) := by decide +kernel
theorem dX4_takesHead_66 : decode cX4_takesHead 66 = .ok (.if_icmp .ne 65, 3) := by decide +kernel
theorem dX4_takesHead_69 : decode cX4_takesHead 69 = .ok (.aload_n 0, 1) := by decide +kernel
theorem dX4_takesHead_70 : decode cX4_takesHead 70 = .ok (.getfield 32, 3) := by decide +kernel
theorem dX4_takesHead_73 : decode cX4_takesHead 73 = .ok (.iload_n 1, 1) := by decide +kernel
theorem dX4_takesHead_74 : decode cX4_takesHead 74 = .ok (.bipush 9, 2) := by decide +kernel
theorem dX4_takesHead_76 : decode cX4_takesHead 76 = .ok (.iadd, 1) := by decide +kernel
theorem dX4_takesHead_77 : decode cX4_takesHead 77 = .ok (.invokevirtual 76, 3) := by decide +kernel
theorem dX4_takesHead_80 : decode cX4_takesHead 80 = .ok (.bipush 6, 2) := by decide +kernel
theorem dX4_takesHead_82 : decode cX4_takesHead 82 = .ok (.if_icmp .ne 49, 3) := by decide +kernel
theorem dX4_takesHead_85 : decode cX4_takesHead 85 = .ok (.aload_n 0, 1) := by decide +kernel
theorem dX4_takesHead_86 : decode cX4_takesHead 86 = .ok (.getfield 32, 3) := by decide +kernel
theorem dX4_takesHead_89 : decode cX4_takesHead 89 = .ok (.iload_n 1, 1) := by decide +kernel
theorem dX4_takesHead_90 : decode cX4_takesHead 90 = .ok (.bipush 10, 2) := by decide +kernel
theorem dX4_takesHead_92 : decode cX4_takesHead 92 = .ok (.iadd, 1) := by decide +kernel
theorem dX4_takesHead_93 : decode cX4_takesHead 93 = .ok (.invokevirtual 76, 3) := by decide +kernel
theorem dX4_takesHead_96 : decode cX4_takesHead 96 = .ok (.ifCond .ne 35, 3) := by decide +kernel
theorem dX4_takesHead_99 : decode cX4_takesHead 99 = .ok (.aload_n 0, 1) := by decide +kernel
theorem dX4_takesHead_100 : decode cX4_takesHead 100 = .ok (.getfield 32, 3) := by decide +kernel
theorem dX4_takesHead_103 : decode cX4_takesHead 103 = .ok (.iload_n 1, 1) := by decide +kernel
theorem dX4_takesHead_104 : decode cX4_takesHead 104 = .ok (.bipush 11, 2) := by decide +kernel
theorem dX4_takesHead_106 : decode cX4_takesHead 106 = .ok (.iadd, 1) := by decide +kernel
theorem dX4_takesHead_107 : decode cX4_takesHead 107 = .ok (.invokevirtual 76, 3) := by decide +kernel
theorem dX4_takesHead_110 : decode cX4_takesHead 110 = .ok (.ifCond .ne 21, 3) := by decide +kernel
theorem dX4_takesHead_113 : decode cX4_takesHead 113 = .ok (.aload_n 0, 1) := by decide +kernel
theorem dX4_takesHead_114 : decode cX4_takesHead 114 = .ok (.getfield 32, 3) := by decide +kernel
theorem dX4_takesHead_117 : decode cX4_takesHead 117 = .ok (.iload_n 1, 1) := by decide +kernel
theorem dX4_takesHead_118 : decode cX4_takesHead 118 = .ok (.bipush 12, 2) := by decide +kernel
theorem dX4_takesHead_120 : decode cX4_takesHead 120 = .ok (.iadd, 1) := by decide +kernel
theorem dX4_takesHead_121 : decode cX4_takesHead 121 = .ok (.invokevirtual 76, 3) := by decide +kernel
theorem dX4_takesHead_124 : decode cX4_takesHead 124 = .ok (.ifCond .ne 7, 3) := by decide +kernel
theorem dX4_takesHead_127 : decode cX4_takesHead 127 = .ok (.iconst 1, 1) := by decide +kernel
theorem dX4_takesHead_128 : decode cX4_takesHead 128 = .ok (.goto 4, 3) := by decide +kernel
theorem dX4_takesHead_131 : decode cX4_takesHead 131 = .ok (.iconst 0, 1) := by decide +kernel
theorem dX4_takesHead_132 : decode cX4_takesHead 132 = .ok (.ireturn, 1) := by decide +kernel
theorem dX4_takesCounts_0 : decode cX4_takesCounts 0 = .ok (.aload_n 0, 1) := by decide +kernel
theorem dX4_takesCounts_1 : decode cX4_takesCounts 1 = .ok (.getfield 32, 3) := by decide +kernel
theorem dX4_takesCounts_4 : decode cX4_takesCounts 4 = .ok (.iload_n 1, 1) := by decide +kernel
theorem dX4_takesCounts_5 : decode cX4_takesCounts 5 = .ok (.invokevirtual 79, 3) := by decide +kernel
theorem dX4_takesCounts_8 : decode cX4_takesCounts 8 = .ok (.istore_n 2, 1) := by decide +kernel
theorem dX4_takesCounts_9 : decode cX4_takesCounts 9 = .ok (.aload_n 0, 1) := by decide +kernel
theorem dX4_takesCounts_10 : decode cX4_takesCounts 10 = .ok (.getfield 47, 3) := by decide +kernel
theorem dX4_takesCounts_13 : decode cX4_takesCounts 13 = .ok (.ifCond .ne 21, 3) := by decide +kernel
theorem dX4_takesCounts_16 : decode cX4_takesCounts 16 = .ok (.aload_n 0, 1) := by decide +kernel
theorem dX4_takesCounts_17 : decode cX4_takesCounts 17 = .ok (.getfield 50, 3) := by decide +kernel
theorem dX4_takesCounts_20 : decode cX4_takesCounts 20 = .ok (.ifCond .ne 14, 3) := by decide +kernel
theorem dX4_takesCounts_23 : decode cX4_takesCounts 23 = .ok (.iload_n 2, 1) := by decide +kernel
theorem dX4_takesCounts_24 : decode cX4_takesCounts 24 = .ok (.iconst 1, 1) := by decide +kernel
theorem dX4_takesCounts_25 : decode cX4_takesCounts 25 = .ok (.if_icmp .lt 9, 3) := by decide +kernel
theorem dX4_takesCounts_28 : decode cX4_takesCounts 28 = .ok (.iload_n 2, 1) := by decide +kernel
theorem dX4_takesCounts_29 : decode cX4_takesCounts 29 = .ok (.bipush 8, 2) := by decide +kernel
theorem dX4_takesCounts_31 : decode cX4_takesCounts 31 = .ok (.if_icmp .le 5, 3) := by decide +kernel
theorem dX4_takesCounts_34 : decode cX4_takesCounts 34 = .ok (.iconst 0, 1) := by decide +kernel
theorem dX4_takesCounts_35 : decode cX4_takesCounts 35 = .ok (.ireturn, 1) := by decide +kernel
theorem dX4_takesCounts_36 : decode cX4_takesCounts 36 = .ok (.aload_n 0, 1) := by decide +kernel
theorem dX4_takesCounts_37 : decode cX4_takesCounts 37 = .ok (.iload_n 2, 1) := by decide +kernel
theorem dX4_takesCounts_38 : decode cX4_takesCounts 38 = .ok (.putfield 47, 3) := by decide +kernel
theorem dX4_takesCounts_41 : decode cX4_takesCounts 41 = .ok (.aload_n 0, 1) := by decide +kernel
theorem dX4_takesCounts_42 : decode cX4_takesCounts 42 = .ok (.getfield 21, 3) := by decide +kernel
theorem dX4_takesCounts_45 : decode cX4_takesCounts 45 = .ok (.aload_n 0, 1) := by decide +kernel
theorem dX4_takesCounts_46 : decode cX4_takesCounts 46 = .ok (.getfield 32, 3) := by decide +kernel
theorem dX4_takesCounts_49 : decode cX4_takesCounts 49 = .ok (.iload_n 1, 1) := by decide +kernel
theorem dX4_takesCounts_50 : decode cX4_takesCounts 50 = .ok (.iconst 4, 1) := by decide +kernel
theorem dX4_takesCounts_51 : decode cX4_takesCounts 51 = .ok (.iadd, 1) := by decide +kernel
theorem dX4_takesCounts_52 : decode cX4_takesCounts 52 = .ok (.invokevirtual 79, 3) := by decide +kernel
theorem dX4_takesCounts_55 : decode cX4_takesCounts 55 = .ok (.putfield 134, 3) := by decide +kernel
theorem dX4_takesCounts_58 : decode cX4_takesCounts 58 = .ok (.iconst 1, 1) := by decide +kernel
theorem dX4_takesCounts_59 : decode cX4_takesCounts 59 = .ok (.ireturn, 1) := by decide +kernel
theorem dX4_takesControl_0 : decode cX4_takesControl 0 = .ok (.aload_n 0, 1) := by decide +kernel
theorem dX4_takesControl_1 : decode cX4_takesControl 1 = .ok (.getfield 40, 3) := by decide +kernel
theorem dX4_takesControl_4 : decode cX4_takesControl 4 = .ok (.ldc 123, 2) := by decide +kernel
theorem dX4_takesControl_6 : decode cX4_takesControl 6 = .ok (.if_icmp .eq 25, 3) := by decide +kernel
