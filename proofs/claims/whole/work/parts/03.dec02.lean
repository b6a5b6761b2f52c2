theorem dX7_blended_80 : decode cX7_blended 80 = .ok (.imul, 1) := by decide +kernel
theorem dX7_blended_81 : decode cX7_blended 81 = .ok (.istore 7, 2) := by decide +kernel
theorem dX7_blended_83 : decode cX7_blended 83 = .ok (.iload_n 1, 1) := by decide +kernel
theorem dX7_blended_84 : decode cX7_blended 84 = .ok (.iload 6, 2) := by decide +kernel
theorem dX7_blended_86 : decode cX7_blended 86 = .ok (.iushr, 1) := by decide +kernel
theorem dX7_blended_87 : decode cX7_blended 87 = .ok (.sipush 255, 3) := by decide +kernel
theorem dX7_blended_90 : decode cX7_blended 90 = .ok (.iand, 1) := by decide +kernel
theorem dX7_blended_91 : decode cX7_blended 91 = .ok (.iload_n 3, 1) := by decide +kernel
theorem dX7_blended_92 : decode cX7_blended 92 = .ok (.imul, 1) := by decide +kernel
theorem dX7_blended_93 : decode cX7_blended 93 = .ok (.sipush 255, 3) := by decide +kernel
theorem dX7_blended_96 : decode cX7_blended 96 = .ok (.iload_n 2, 1) := by decide +kernel
theorem dX7_blended_97 : decode cX7_blended 97 = .ok (.isub, 1) := by decide +kernel
theorem dX7_blended_98 : decode cX7_blended 98 = .ok (.imul, 1) := by decide +kernel
theorem dX7_blended_99 : decode cX7_blended 99 = .ok (.istore 8, 2) := by decide +kernel
theorem dX7_blended_101 : decode cX7_blended 101 = .ok (.iload 5, 2) := by decide +kernel
theorem dX7_blended_103 : decode cX7_blended 103 = .ok (.iload 7, 2) := by decide +kernel
theorem dX7_blended_105 : decode cX7_blended 105 = .ok (.iload 8, 2) := by decide +kernel
theorem dX7_blended_107 : decode cX7_blended 107 = .ok (.iadd, 1) := by decide +kernel
theorem dX7_blended_108 : decode cX7_blended 108 = .ok (.iload 4, 2) := by decide +kernel
theorem dX7_blended_110 : decode cX7_blended 110 = .ok (.idiv, 1) := by decide +kernel
theorem dX7_blended_111 : decode cX7_blended 111 = .ok (.iload 6, 2) := by decide +kernel
theorem dX7_blended_113 : decode cX7_blended 113 = .ok (.ishl, 1) := by decide +kernel
theorem dX7_blended_114 : decode cX7_blended 114 = .ok (.ior, 1) := by decide +kernel
theorem dX7_blended_115 : decode cX7_blended 115 = .ok (.istore 5, 2) := by decide +kernel
theorem dX7_blended_117 : decode cX7_blended 117 = .ok (.iinc 6 8, 3) := by decide +kernel
theorem dX7_blended_120 : decode cX7_blended 120 = .ok (.goto (-60), 3) := by decide +kernel
theorem dX7_blended_123 : decode cX7_blended 123 = .ok (.iload 5, 2) := by decide +kernel
theorem dX7_blended_125 : decode cX7_blended 125 = .ok (.ireturn, 1) := by decide +kernel
theorem dX8_init_0 : decode cX8_init 0 = .ok (.aload_n 0, 1) := by decide +kernel
theorem dX8_init_1 : decode cX8_init 1 = .ok (.invokespecial 1, 3) := by decide +kernel
theorem dX8_init_4 : decode cX8_init 4 = .ok (.aload_n 0, 1) := by decide +kernel
theorem dX8_init_5 : decode cX8_init 5 = .ok (.sipush 256, 3) := by decide +kernel
theorem dX8_init_8 : decode cX8_init 8 = .ok (.newarray .int, 2) := by decide +kernel
theorem dX8_init_10 : decode cX8_init 10 = .ok (.putfield 7, 3) := by decide +kernel
theorem dX8_init_13 : decode cX8_init 13 = .ok (.iconst 0, 1) := by decide +kernel
theorem dX8_init_14 : decode cX8_init 14 = .ok (.istore_n 1, 1) := by decide +kernel
theorem dX8_init_15 : decode cX8_init 15 = .ok (.iload_n 1, 1) := by decide +kernel
theorem dX8_init_16 : decode cX8_init 16 = .ok (.sipush 256, 3) := by decide +kernel
theorem dX8_init_19 : decode cX8_init 19 = .ok (.if_icmp .ge 51, 3) := by decide +kernel
theorem dX8_init_22 : decode cX8_init 22 = .ok (.iload_n 1, 1) := by decide +kernel
theorem dX8_init_23 : decode cX8_init 23 = .ok (.istore_n 2, 1) := by decide +kernel
theorem dX8_init_24 : decode cX8_init 24 = .ok (.iconst 0, 1) := by decide +kernel
theorem dX8_init_25 : decode cX8_init 25 = .ok (.istore_n 3, 1) := by decide +kernel
theorem dX8_init_26 : decode cX8_init 26 = .ok (.iload_n 3, 1) := by decide +kernel
theorem dX8_init_27 : decode cX8_init 27 = .ok (.bipush 8, 2) := by decide +kernel
theorem dX8_init_29 : decode cX8_init 29 = .ok (.if_icmp .ge 28, 3) := by decide +kernel
theorem dX8_init_32 : decode cX8_init 32 = .ok (.iload_n 2, 1) := by decide +kernel
theorem dX8_init_33 : decode cX8_init 33 = .ok (.iconst 1, 1) := by decide +kernel
theorem dX8_init_34 : decode cX8_init 34 = .ok (.iand, 1) := by decide +kernel
theorem dX8_init_35 : decode cX8_init 35 = .ok (.ifCond .ne 9, 3) := by decide +kernel
theorem dX8_init_38 : decode cX8_init 38 = .ok (.iload_n 2, 1) := by decide +kernel
theorem dX8_init_39 : decode cX8_init 39 = .ok (.iconst 1, 1) := by decide +kernel
theorem dX8_init_40 : decode cX8_init 40 = .ok (.iushr, 1) := by decide +kernel
theorem dX8_init_41 : decode cX8_init 41 = .ok (.goto 9, 3) := by decide +kernel
theorem dX8_init_44 : decode cX8_init 44 = .ok (.iload_n 2, 1) := by decide +kernel
theorem dX8_init_45 : decode cX8_init 45 = .ok (.iconst 1, 1) := by decide +kernel
theorem dX8_init_46 : decode cX8_init 46 = .ok (.iushr, 1) := by decide +kernel
theorem dX8_init_47 : decode cX8_init 47 = .ok (.ldc 13, 2) := by decide +kernel
theorem dX8_init_49 : decode cX8_init 49 = .ok (.ixor, 1) := by decide +kernel
theorem dX8_init_50 : decode cX8_init 50 = .ok (.istore_n 2, 1) := by decide +kernel
theorem dX8_init_51 : decode cX8_init 51 = .ok (.iinc 3 1, 3) := by decide +kernel
theorem dX8_init_54 : decode cX8_init 54 = .ok (.goto (-28), 3) := by decide +kernel
theorem dX8_init_57 : decode cX8_init 57 = .ok (.aload_n 0, 1) := by decide +kernel
theorem dX8_init_58 : decode cX8_init 58 = .ok (.getfield 7, 3) := by decide +kernel
theorem dX8_init_61 : decode cX8_init 61 = .ok (.iload_n 1, 1) := by decide +kernel
theorem dX8_init_62 : decode cX8_init 62 = .ok (.iload_n 2, 1) := by decide +kernel
theorem dX8_init_63 : decode cX8_init 63 = .ok (.iastore, 1) := by decide +kernel
theorem dX8_init_64 : decode cX8_init 64 = .ok (.iinc 1 1, 3) := by decide +kernel
theorem dX8_init_67 : decode cX8_init 67 = .ok (.goto (-52), 3) := by decide +kernel
theorem dX8_init_70 : decode cX8_init 70 = .ok (.return_, 1) := by decide +kernel
theorem dX8_ofChunk_0 : decode cX8_ofChunk 0 = .ok (.iconst (-1), 1) := by decide +kernel
theorem dX8_ofChunk_1 : decode cX8_ofChunk 1 = .ok (.istore 4, 2) := by decide +kernel
theorem dX8_ofChunk_3 : decode cX8_ofChunk 3 = .ok (.iload_n 2, 1) := by decide +kernel
theorem dX8_ofChunk_4 : decode cX8_ofChunk 4 = .ok (.istore 5, 2) := by decide +kernel
theorem dX8_ofChunk_6 : decode cX8_ofChunk 6 = .ok (.iload 5, 2) := by decide +kernel
theorem dX8_ofChunk_8 : decode cX8_ofChunk 8 = .ok (.iload_n 3, 1) := by decide +kernel
theorem dX8_ofChunk_9 : decode cX8_ofChunk 9 = .ok (.if_icmp .ge 35, 3) := by decide +kernel
theorem dX8_ofChunk_12 : decode cX8_ofChunk 12 = .ok (.iload 4, 2) := by decide +kernel
theorem dX8_ofChunk_14 : decode cX8_ofChunk 14 = .ok (.bipush 8, 2) := by decide +kernel
theorem dX8_ofChunk_16 : decode cX8_ofChunk 16 = .ok (.iushr, 1) := by decide +kernel
theorem dX8_ofChunk_17 : decode cX8_ofChunk 17 = .ok (.aload_n 0, 1) := by decide +kernel
theorem dX8_ofChunk_18 : decode cX8_ofChunk 18 = .ok (.getfield 7, 3) := by decide +kernel
theorem dX8_ofChunk_21 : decode cX8_ofChunk 21 = .ok (.iload 4, 2) := by decide +kernel
theorem dX8_ofChunk_23 : decode cX8_ofChunk 23 = .ok (.aload_n 1, 1) := by decide +kernel
theorem dX8_ofChunk_24 : decode cX8_ofChunk 24 = .ok (.iload 5, 2) := by decide +kernel
theorem dX8_ofChunk_26 : decode cX8_ofChunk 26 = .ok (.invokevirtual 14, 3) := by decide +kernel
theorem dX8_ofChunk_29 : decode cX8_ofChunk 29 = .ok (.ixor, 1) := by decide +kernel
theorem dX8_ofChunk_30 : decode cX8_ofChunk 30 = .ok (.sipush 255, 3) := by decide +kernel
theorem dX8_ofChunk_33 : decode cX8_ofChunk 33 = .ok (.iand, 1) := by decide +kernel
theorem dX8_ofChunk_34 : decode cX8_ofChunk 34 = .ok (.iaload, 1) := by decide +kernel
theorem dX8_ofChunk_35 : decode cX8_ofChunk 35 = .ok (.ixor, 1) := by decide +kernel
theorem dX8_ofChunk_36 : decode cX8_ofChunk 36 = .ok (.istore 4, 2) := by decide +kernel
theorem dX8_ofChunk_38 : decode cX8_ofChunk 38 = .ok (.iinc 5 1, 3) := by decide +kernel
theorem dX8_ofChunk_41 : decode cX8_ofChunk 41 = .ok (.goto (-35), 3) := by decide +kernel
theorem dX8_ofChunk_44 : decode cX8_ofChunk 44 = .ok (.iload 4, 2) := by decide +kernel
theorem dX8_ofChunk_46 : decode cX8_ofChunk 46 = .ok (.iconst (-1), 1) := by decide +kernel
theorem dX8_ofChunk_47 : decode cX8_ofChunk 47 = .ok (.ixor, 1) := by decide +kernel
theorem dX8_ofChunk_48 : decode cX8_ofChunk 48 = .ok (.ireturn, 1) := by decide +kernel
theorem dX8_ofRaw_0 : decode cX8_ofRaw 0 = .ok (.iconst 1, 1) := by decide +kernel
theorem dX8_ofRaw_1 : decode cX8_ofRaw 1 = .ok (.istore_n 3, 1) := by decide +kernel
theorem dX8_ofRaw_2 : decode cX8_ofRaw 2 = .ok (.iconst 0, 1) := by decide +kernel
theorem dX8_ofRaw_3 : decode cX8_ofRaw 3 = .ok (.istore 4, 2) := by decide +kernel
theorem dX8_ofRaw_5 : decode cX8_ofRaw 5 = .ok (.iload_n 1, 1) := by decide +kernel
theorem dX8_ofRaw_6 : decode cX8_ofRaw 6 = .ok (.istore 5, 2) := by decide +kernel
theorem dX8_ofRaw_8 : decode cX8_ofRaw 8 = .ok (.iload 5, 2) := by decide +kernel
theorem dX8_ofRaw_10 : decode cX8_ofRaw 10 = .ok (.iload_n 2, 1) := by decide +kernel
theorem dX8_ofRaw_11 : decode cX8_ofRaw 11 = .ok (.if_icmp .ge 30, 3) := by decide +kernel
theorem dX8_ofRaw_14 : decode cX8_ofRaw 14 = .ok (.iload_n 3, 1) := by decide +kernel
theorem dX8_ofRaw_15 : decode cX8_ofRaw 15 = .ok (.aload_n 0, 1) := by decide +kernel
theorem dX8_ofRaw_16 : decode cX8_ofRaw 16 = .ok (.iload 5, 2) := by decide +kernel
theorem dX8_ofRaw_18 : decode cX8_ofRaw 18 = .ok (.invokevirtual 14, 3) := by decide +kernel
theorem dX8_ofRaw_21 : decode cX8_ofRaw 21 = .ok (.iadd, 1) := by decide +kernel
theorem dX8_ofRaw_22 : decode cX8_ofRaw 22 = .ok (.ldc 20, 2) := by decide +kernel
theorem dX8_ofRaw_24 : decode cX8_ofRaw 24 = .ok (.irem, 1) := by decide +kernel
theorem dX8_ofRaw_25 : decode cX8_ofRaw 25 = .ok (.istore_n 3, 1) := by decide +kernel
theorem dX8_ofRaw_26 : decode cX8_ofRaw 26 = .ok (.iload 4, 2) := by decide +kernel
theorem dX8_ofRaw_28 : decode cX8_ofRaw 28 = .ok (.iload_n 3, 1) := by decide +kernel
theorem dX8_ofRaw_29 : decode cX8_ofRaw 29 = .ok (.iadd, 1) := by decide +kernel
theorem dX8_ofRaw_30 : decode cX8_ofRaw 30 = .ok (.ldc 20, 2) := by decide +kernel
theorem dX8_ofRaw_32 : decode cX8_ofRaw 32 = .ok (.irem, 1) := by decide +kernel
theorem dX8_ofRaw_33 : decode cX8_ofRaw 33 = .ok (.istore 4, 2) := by decide +kernel
theorem dX8_ofRaw_35 : decode cX8_ofRaw 35 = .ok (.iinc 5 1, 3) := by decide +kernel
theorem dX8_ofRaw_38 : decode cX8_ofRaw 38 = .ok (.goto (-30), 3) := by decide +kernel
theorem dX8_ofRaw_41 : decode cX8_ofRaw 41 = .ok (.iload 4, 2) := by decide +kernel
theorem dX8_ofRaw_43 : decode cX8_ofRaw 43 = .ok (.bipush 16, 2) := by decide +kernel
theorem dX8_ofRaw_45 : decode cX8_ofRaw 45 = .ok (.ishl, 1) := by decide +kernel
theorem dX8_ofRaw_46 : decode cX8_ofRaw 46 = .ok (.iload_n 3, 1) := by decide +kernel
theorem dX8_ofRaw_47 : decode cX8_ofRaw 47 = .ok (.ior, 1) := by decide +kernel
theorem dX8_ofRaw_48 : decode cX8_ofRaw 48 = .ok (.ireturn, 1) := by decide +kernel
theorem dX9_init_0 : decode cX9_init 0 = .ok (.aload_n 0, 1) := by decide +kernel
theorem dX9_init_1 : decode cX9_init 1 = .ok (.invokespecial 3, 3) := by decide +kernel
theorem dX9_init_4 : decode cX9_init 4 = .ok (.aload_n 0, 1) := by decide +kernel
theorem dX9_init_5 : decode cX9_init 5 = .ok (.new 9, 3) := by decide +kernel
theorem dX9_init_8 : decode cX9_init 8 = .ok (.dup, 1) := by decide +kernel
theorem dX9_init_9 : decode cX9_init 9 = .ok (.sipush 8000, 3) := by decide +kernel
theorem dX9_init_12 : decode cX9_init 12 = .ok (.invokespecial 11, 3) := by decide +kernel
theorem dX9_init_15 : decode cX9_init 15 = .ok (.putfield 14, 3) := by decide +kernel
theorem dX9_init_18 : decode cX9_init 18 = .ok (.aload_n 0, 1) := by decide +kernel
theorem dX9_init_19 : decode cX9_init 19 = .ok (.new 9, 3) := by decide +kernel
theorem dX9_init_22 : decode cX9_init 22 = .ok (.dup, 1) := by decide +kernel
theorem dX9_init_23 : decode cX9_init 23 = .ok (.sipush 1100, 3) := by decide +kernel
theorem dX9_init_26 : decode cX9_init 26 = .ok (.invokespecial 11, 3) := by decide +kernel
theorem dX9_init_29 : decode cX9_init 29 = .ok (.putfield 20, 3) := by decide +kernel
theorem dX9_init_32 : decode cX9_init 32 = .ok (.aload_n 0, 1) := by decide +kernel
theorem dX9_init_33 : decode cX9_init 33 = .ok (.new 23, 3) := by decide +kernel
theorem dX9_init_36 : decode cX9_init 36 = .ok (.dup, 1) := by decide +kernel
theorem dX9_init_37 : decode cX9_init 37 = .ok (.aload_n 0, 1) := by decide +kernel
theorem dX9_init_38 : decode cX9_init 38 = .ok (.getfield 14, 3) := by decide +kernel
theorem dX9_init_41 : decode cX9_init 41 = .ok (.invokespecial 25, 3) := by decide +kernel
theorem dX9_init_44 : decode cX9_init 44 = .ok (.putfield 28, 3) := by decide +kernel
theorem dX9_init_47 : decode cX9_init 47 = .ok (.aload_n 0, 1) := by decide +kernel
theorem dX9_init_48 : decode cX9_init 48 = .ok (.new 32, 3) := by decide +kernel
theorem dX9_init_51 : decode cX9_init 51 = .ok (.dup, 1) := by decide +kernel
theorem dX9_init_52 : decode cX9_init 52 = .ok (.invokespecial 34, 3) := by decide +kernel
theorem dX9_init_55 : decode cX9_init 55 = .ok (.putfield 35, 3) := by decide +kernel
theorem dX9_init_58 : decode cX9_init 58 = .ok (.aload_n 0, 1) := by decide +kernel
theorem dX9_init_59 : decode cX9_init 59 = .ok (.new 32, 3) := by decide +kernel
theorem dX9_init_62 : decode cX9_init 62 = .ok (.dup, 1) := by decide +kernel
theorem dX9_init_63 : decode cX9_init 63 = .ok (.invokespecial 34, 3) := by decide +kernel
theorem dX9_init_66 : decode cX9_init 66 = .ok (.putfield 39, 3) := by decide +kernel
theorem dX9_init_69 : decode cX9_init 69 = .ok (.aload_n 0, 1) := by decide +kernel
theorem dX9_init_70 : decode cX9_init 70 = .ok (.new 32, 3) := by decide +kernel
theorem dX9_init_73 : decode cX9_init 73 = .ok (.dup, 1) := by decide +kernel
theorem dX9_init_74 : decode cX9_init 74 = .ok (.invokespecial 34, 3) := by decide +kernel
theorem dX9_init_77 : decode cX9_init 77 = .ok (.putfield 42, 3) := by decide +kernel
theorem dX9_init_80 : decode cX9_init 80 = .ok (.aload_n 0, 1) := by decide +kernel
theorem dX9_init_81 : decode cX9_init 81 = .ok (.sipush 320, 3) := by decide +kernel
theorem dX9_init_84 : decode cX9_init 84 = .ok (.newarray .int, 2) := by decide +kernel
theorem dX9_init_86 : decode cX9_init 86 = .ok (.putfield 45, 3) := by decide +kernel
theorem dX9_init_89 : decode cX9_init 89 = .ok (.return_, 1) := by decide +kernel
theorem dX9_unpack_0 : decode cX9_unpack 0 = .ok (.aload_n 0, 1) := by decide +kernel
theorem dX9_unpack_1 : decode cX9_unpack 1 = .ok (.getfield 20, 3) := by decide +kernel
theorem dX9_unpack_4 : decode cX9_unpack 4 = .ok (.invokevirtual 49, 3) := by decide +kernel
theorem dX9_unpack_7 : decode cX9_unpack 7 = .ok (.aload_n 0, 1) := by decide +kernel
theorem dX9_unpack_8 : decode cX9_unpack 8 = .ok (.invokevirtual 52, 3) := by decide +kernel
theorem dX9_unpack_11 : decode cX9_unpack 11 = .ok (.ifCond .ne 5, 3) := by decide +kernel
theorem dX9_unpack_14 : decode cX9_unpack 14 = .ok (.iconst 0, 1) := by decide +kernel
theorem dX9_unpack_15 : decode cX9_unpack 15 = .ok (.ireturn, 1) := by decide +kernel
theorem dX9_unpack_16 : decode cX9_unpack 16 = .ok (.aload_n 0, 1) := by decide +kernel
theorem dX9_unpack_17 : decode cX9_unpack 17 = .ok (.getfield 28, 3) := by decide +kernel
theorem dX9_unpack_20 : decode cX9_unpack 20 = .ok (.bipush 16, 2) := by decide +kernel
theorem dX9_unpack_22 : decode cX9_unpack 22 = .ok (.putfield 56, 3) := by decide +kernel
theorem dX9_unpack_25 : decode cX9_unpack 25 = .ok (.iconst 0, 1) := by decide +kernel
theorem dX9_unpack_26 : decode cX9_unpack 26 = .ok (.istore_n 1, 1) := by decide +kernel
theorem dX9_unpack_27 : decode cX9_unpack 27 = .ok (.aload_n 0, 1) := by decide +kernel
theorem dX9_unpack_28 : decode cX9_unpack 28 = .ok (.getfield 14, 3) := by decide +kernel
theorem dX9_unpack_31 : decode cX9_unpack 31 = .ok (.getfield 60, 3) := by decide +kernel
theorem dX9_unpack_34 : decode cX9_unpack 34 = .ok (.bipush 8, 2) := by decide +kernel
theorem dX9_unpack_36 : decode cX9_unpack 36 = .ok (.imul, 1) := by decide +kernel
theorem dX9_unpack_37 : decode cX9_unpack 37 = .ok (.istore_n 2, 1) := by decide +kernel
theorem dX9_unpack_38 : decode cX9_unpack 38 = .ok (.iconst 0, 1) := by decide +kernel
theorem dX9_unpack_39 : decode cX9_unpack 39 = .ok (.istore_n 3, 1) := by decide +kernel
theorem dX9_unpack_40 : decode cX9_unpack 40 = .ok (.iload_n 3, 1) := by decide +kernel
theorem dX9_unpack_41 : decode cX9_unpack 41 = .ok (.iload_n 2, 1) := by decide +kernel
theorem dX9_unpack_42 : decode cX9_unpack 42 = .ok (.if_icmp .ge 83, 3) := by decide +kernel
theorem dX9_unpack_45 : decode cX9_unpack 45 = .ok (.iload_n 1, 1) := by decide +kernel
theorem dX9_unpack_46 : decode cX9_unpack 46 = .ok (.ifCond .ne 79, 3) := by decide +kernel
theorem dX9_unpack_49 : decode cX9_unpack 49 = .ok (.aload_n 0, 1) := by decide +kernel
theorem dX9_unpack_50 : decode cX9_unpack 50 = .ok (.getfield 28, 3) := by decide +kernel
theorem dX9_unpack_53 : decode cX9_unpack 53 = .ok (.iconst 3, 1) := by decide +kernel
theorem dX9_unpack_54 : decode cX9_unpack 54 = .ok (.invokevirtual 63, 3) := by decide +kernel
theorem dX9_unpack_57 : decode cX9_unpack 57 = .ok (.istore 4, 2) := by decide +kernel
theorem dX9_unpack_59 : decode cX9_unpack 59 = .ok (.iload 4, 2) := by decide +kernel
theorem dX9_unpack_61 : decode cX9_unpack 61 = .ok (.ifCond .ge 5, 3) := by decide +kernel
theorem dX9_unpack_64 : decode cX9_unpack 64 = .ok (.iconst 0, 1) := by decide +kernel
theorem dX9_unpack_65 : decode cX9_unpack 65 = .ok (.ireturn, 1) := by decide +kernel
theorem dX9_unpack_66 : decode cX9_unpack 66 = .ok (.iload 4, 2) := by decide +kernel
theorem dX9_unpack_68 : decode cX9_unpack 68 = .ok (.iconst 1, 1) := by decide +kernel
theorem dX9_unpack_69 : decode cX9_unpack 69 = .ok (.iand, 1) := by decide +kernel
theorem dX9_unpack_70 : decode cX9_unpack 70 = .ok (.iconst 1, 1) := by decide +kernel
theorem dX9_unpack_71 : decode cX9_unpack 71 = .ok (.if_icmp .ne 7, 3) := by decide +kernel
theorem dX9_unpack_74 : decode cX9_unpack 74 = .ok (.iconst 1, 1) := by decide +kernel
theorem dX9_unpack_75 : decode cX9_unpack 75 = .ok (.goto 4, 3) := by decide +kernel
theorem dX9_unpack_78 : decode cX9_unpack 78 = .ok (.iconst 0, 1) := by decide +kernel
theorem dX9_unpack_79 : decode cX9_unpack 79 = .ok (.istore_n 1, 1) := by decide +kernel
theorem dX9_unpack_80 : decode cX9_unpack 80 = .ok (.iload 4, 2) := by decide +kernel
theorem dX9_unpack_82 : decode cX9_unpack 82 = .ok (.iconst 1, 1) := by decide +kernel
theorem dX9_unpack_83 : decode cX9_unpack 83 = .ok (.ishr, 1) := by decide +kernel
theorem dX9_unpack_84 : decode cX9_unpack 84 = .ok (.istore 5, 2) := by decide +kernel
theorem dX9_unpack_86 : decode cX9_unpack 86 = .ok (.iload 5, 2) := by decide +kernel
theorem dX9_unpack_88 : decode cX9_unpack 88 = .ok (.ifCond .ne 13, 3) := by decide +kernel
theorem dX9_unpack_91 : decode cX9_unpack 91 = .ok (.aload_n 0, 1) := by decide +kernel
theorem dX9_unpack_92 : decode cX9_unpack 92 = .ok (.invokevirtual 67, 3) := by decide +kernel
theorem dX9_unpack_95 : decode cX9_unpack 95 = .ok (.ifCond .eq 22, 3) := by decide +kernel
theorem dX9_unpack_98 : decode cX9_unpack 98 = .ok (.goto 21, 3) := by decide +kernel
theorem dX9_unpack_101 : decode cX9_unpack 101 = .ok (.aload_n 0, 1) := by decide +kernel
theorem dX9_unpack_102 : decode cX9_unpack 102 = .ok (.iload 5, 2) := by decide +kernel
theorem dX9_unpack_104 : decode cX9_unpack 104 = .ok (.invokevirtual 70, 3) := by decide +kernel
theorem dX9_unpack_107 : decode cX9_unpack 107 = .ok (.ifCond .eq 10, 3) := by decide +kernel
theorem dX9_unpack_110 : decode cX9_unpack 110 = .ok (.aload_n 0, 1) := by decide +kernel
theorem dX9_unpack_111 : decode cX9_unpack 111 = .ok (.invokevirtual 74, 3) := by decide +kernel
theorem dX9_unpack_114 : decode cX9_unpack 114 = .ok (.ifCond .ne 5, 3) := by decide +kernel
theorem dX9_unpack_117 : decode cX9_unpack 117 = .ok (.iconst 0, 1) := by decide +kernel
theorem dX9_unpack_118 : decode cX9_unpack 118 = .ok (.ireturn, 1) := by decide +kernel
theorem dX9_unpack_119 : decode cX9_unpack 119 = .ok (.iinc 3 1, 3) := by decide +kernel
theorem dX9_unpack_122 : decode cX9_unpack 122 = .ok (.goto (-82), 3) := by decide +kernel
theorem dX9_unpack_125 : decode cX9_unpack 125 = .ok (.iload_n 1, 1) := by decide +kernel
theorem dX9_unpack_126 : decode cX9_unpack 126 = .ok (.ifCond .eq 14, 3) := by decide +kernel
theorem dX9_unpack_129 : decode cX9_unpack 129 = .ok (.aload_n 0, 1) := by decide +kernel
theorem dX9_unpack_130 : decode cX9_unpack 130 = .ok (.invokevirtual 77, 3) := by decide +kernel
theorem dX9_unpack_133 : decode cX9_unpack 133 = .ok (.ifCond .eq 7, 3) := by decide +kernel
theorem dX9_unpack_136 : decode cX9_unpack 136 = .ok (.iconst 1, 1) := by decide +kernel
theorem dX9_unpack_137 : decode cX9_unpack 137 = .ok (.goto 4, 3) := by decide +kernel
theorem dX9_unpack_140 : decode cX9_unpack 140 = .ok (.iconst 0, 1) := by decide +kernel
theorem dX9_unpack_141 : decode cX9_unpack 141 = .ok (.ireturn, 1) := by decide +kernel
theorem dX9_startsAsPacked_0 : decode cX9_startsAsPacked 0 = .ok (.aload_n 0, 1) := by decide +kernel
theorem dX9_startsAsPacked_1 : decode cX9_startsAsPacked 1 = .ok (.getfield 14, 3) := by decide +kernel
theorem dX9_startsAsPacked_4 : decode cX9_startsAsPacked 4 = .ok (.iconst 1, 1) := by decide +kernel
theorem dX9_startsAsPacked_5 : decode cX9_startsAsPacked 5 = .ok (.invokevirtual 80, 3) := by decide +kernel
theorem dX9_startsAsPacked_8 : decode cX9_startsAsPacked 8 = .ok (.istore_n 1, 1) := by decide +kernel
theorem dX9_startsAsPacked_9 : decode cX9_startsAsPacked 9 = .ok (.aload_n 0, 1) := by decide +kernel
theorem dX9_startsAsPacked_10 : decode cX9_startsAsPacked 10 = .ok (.getfield 14, 3) := by decide +kernel
theorem dX9_startsAsPacked_13 : decode cX9_startsAsPacked 13 = .ok (.iconst 0, 1) := by decide +kernel
theorem dX9_startsAsPacked_14 : decode cX9_startsAsPacked 14 = .ok (.invokevirtual 80, 3) := by decide +kernel
theorem dX9_startsAsPacked_17 : decode cX9_startsAsPacked 17 = .ok (.bipush 120, 2) := by decide +kernel
theorem dX9_startsAsPacked_19 : decode cX9_startsAsPacked 19 = .ok (.if_icmp .ne 29, 3) := by decide +kernel
theorem dX9_startsAsPacked_22 : decode cX9_startsAsPacked 22 = .ok (.iload_n 1, 1) := by decide +kernel
theorem dX9_startsAsPacked_23 : decode cX9_startsAsPacked 23 = .ok (.ifCond .lt 25, 3) := by decide +kernel
theorem dX9_startsAsPacked_26 : decode cX9_startsAsPacked 26 = .ok (.iload_n 1, 1) := by decide +kernel
theorem dX9_startsAsPacked_27 : decode cX9_startsAsPacked 27 = .ok (.bipush 32, 2) := by decide +kernel
theorem dX9_startsAsPacked_29 : decode cX9_startsAsPacked 29 = .ok (.iand, 1) := by decide +kernel
theorem dX9_startsAsPacked_30 : decode cX9_startsAsPacked 30 = .ok (.ifCond .ne 18, 3) := by decide +kernel
theorem dX9_startsAsPacked_33 : decode cX9_startsAsPacked 33 = .ok (.sipush 30720, 3) := by decide +kernel
theorem dX9_startsAsPacked_36 : decode cX9_startsAsPacked 36 = .ok (.iload_n 1, 1) := by decide +kernel
theorem dX9_startsAsPacked_37 : decode cX9_startsAsPacked 37 = .ok (.iadd, 1) := by decide +kernel
theorem dX9_startsAsPacked_38 : decode cX9_startsAsPacked 38 = .ok (.bipush 31, 2) := by decide +kernel
theorem dX9_startsAsPacked_40 : decode cX9_startsAsPacked 40 = .ok (.irem, 1) := by decide +kernel
theorem dX9_startsAsPacked_41 : decode cX9_startsAsPacked 41 = .ok (.ifCond .ne 7, 3) := by decide +kernel
theorem dX9_startsAsPacked_44 : decode cX9_startsAsPacked 44 = .ok (.iconst 1, 1) := by decide +kernel
theorem dX9_startsAsPacked_45 : decode cX9_startsAsPacked 45 = .ok (.goto 4, 3) := by decide +kernel
theorem dX9_startsAsPacked_48 : decode cX9_startsAsPacked 48 = .ok (.iconst 0, 1) := by decide +kernel
theorem dX9_startsAsPacked_49 : decode cX9_startsAsPacked 49 = .ok (.ireturn, 1) := by decide +kernel
theorem dX9_hasCodes_0 : decode cX9_hasCodes 0 = .ok (.iload_n 1, 1) := by decide +kernel
theorem dX9_hasCodes_1 : decode cX9_hasCodes 1 = .ok (.iconst 1, 1) := by decide +kernel
theorem dX9_hasCodes_2 : decode cX9_hasCodes 2 = .ok (.if_icmp .ne 9, 3) := by decide +kernel
theorem dX9_hasCodes_5 : decode cX9_hasCodes 5 = .ok (.aload_n 0, 1) := by decide +kernel
theorem dX9_hasCodes_6 : decode cX9_hasCodes 6 = .ok (.invokevirtual 82, 3) := by decide +kernel
theorem dX9_hasCodes_9 : decode cX9_hasCodes 9 = .ok (.iconst 1, 1) := by decide +kernel
theorem dX9_hasCodes_10 : decode cX9_hasCodes 10 = .ok (.ireturn, 1) := by decide +kernel
theorem dX9_hasCodes_11 : decode cX9_hasCodes 11 = .ok (.iload_n 1, 1) := by decide +kernel
theorem dX9_hasCodes_12 : decode cX9_hasCodes 12 = .ok (.iconst 2, 1) := by decide +kernel
theorem dX9_hasCodes_13 : decode cX9_hasCodes 13 = .ok (.if_icmp .ne 28, 3) := by decide +kernel
theorem dX9_hasCodes_16 : decode cX9_hasCodes 16 = .ok (.aload_n 0, 1) := by decide +kernel
theorem dX9_hasCodes_17 : decode cX9_hasCodes 17 = .ok (.invokevirtual 85, 3) := by decide +kernel
theorem dX9_hasCodes_20 : decode cX9_hasCodes 20 = .ok (.ifCond .eq 21, 3) := by decide +kernel
theorem dX9_hasCodes_23 : decode cX9_hasCodes 23 = .ok (.aload_n 0, 1) := by decide +kernel
theorem dX9_hasCodes_24 : decode cX9_hasCodes 24 = .ok (.invokevirtual 88, 3) := by decide +kernel
theorem dX9_hasCodes_27 : decode cX9_hasCodes 27 = .ok (.ifCond .eq 14, 3) := by decide +kernel
theorem dX9_hasCodes_30 : decode cX9_hasCodes 30 = .ok (.aload_n 0, 1) := by decide +kernel
theorem dX9_hasCodes_31 : decode cX9_hasCodes 31 = .ok (.invokevirtual 91, 3) := by decide +kernel
theorem dX9_hasCodes_34 : decode cX9_hasCodes 34 = .ok (.ifCond .eq 7, 3) := by decide +kernel
theorem dX9_hasCodes_37 : decode cX9_hasCodes 37 = .ok (.iconst 1, 1) := by decide +kernel
theorem dX9_hasCodes_38 : decode cX9_hasCodes 38 = .ok (.goto 4, 3) := by decide +kernel
theorem dX9_hasCodes_41 : decode cX9_hasCodes 41 = .ok (.iconst 0, 1) := by decide +kernel
theorem dX9_hasCodes_42 : decode cX9_hasCodes 42 = .ok (.ireturn, 1) := by decide +kernel
theorem dX9_endsWithSum_0 : decode cX9_endsWithSum 0 = .ok (.aload_n 0, 1) := by decide +kernel
theorem dX9_endsWithSum_1 : decode cX9_endsWithSum 1 = .ok (.getfield 28, 3) := by decide +kernel
theorem dX9_endsWithSum_4 : decode cX9_endsWithSum 4 = .ok (.invokevirtual 94, 3) := by decide +kernel
theorem dX9_endsWithSum_7 : decode cX9_endsWithSum 7 = .ok (.aload_n 0, 1) := by decide +kernel
theorem dX9_endsWithSum_8 : decode cX9_endsWithSum 8 = .ok (.getfield 28, 3) := by decide +kernel
theorem dX9_endsWithSum_11 : decode cX9_endsWithSum 11 = .ok (.getfield 56, 3) := by decide +kernel
theorem dX9_endsWithSum_14 : decode cX9_endsWithSum 14 = .ok (.bipush 8, 2) := by decide +kernel
theorem dX9_endsWithSum_16 : decode cX9_endsWithSum 16 = .ok (.idiv, 1) := by decide +kernel
theorem dX9_endsWithSum_17 : decode cX9_endsWithSum 17 = .ok (.istore_n 1, 1) := by decide +kernel
theorem dX9_endsWithSum_18 : decode cX9_endsWithSum 18 = .ok (.aload_n 0, 1) := by decide +kernel
theorem dX9_endsWithSum_19 : decode cX9_endsWithSum 19 = .ok (.getfield 14, 3) := by decide +kernel
theorem dX9_endsWithSum_22 : decode cX9_endsWithSum 22 = .ok (.getfield 60, 3) := by decide +kernel
theorem dX9_endsWithSum_25 : decode cX9_endsWithSum 25 = .ok (.iload_n 1, 1) := by decide +kernel
theorem dX9_endsWithSum_26 : decode cX9_endsWithSum 26 = .ok (.isub, 1) := by decide +kernel
theorem dX9_endsWithSum_27 : decode cX9_endsWithSum 27 = .ok (.iconst 4, 1) := by decide +kernel
theorem dX9_endsWithSum_28 : decode cX9_endsWithSum 28 = .ok (.if_icmp .ne 33, 3) := by decide +kernel
theorem dX9_endsWithSum_31 : decode cX9_endsWithSum 31 = .ok (.aload_n 0, 1) := by decide +kernel
theorem dX9_endsWithSum_32 : decode cX9_endsWithSum 32 = .ok (.getfield 14, 3) := by decide +kernel
theorem dX9_endsWithSum_35 : decode cX9_endsWithSum 35 = .ok (.iload_n 1, 1) := by decide +kernel
theorem dX9_endsWithSum_36 : decode cX9_endsWithSum 36 = .ok (.invokevirtual 97, 3) := by decide +kernel
theorem dX9_endsWithSum_39 : decode cX9_endsWithSum 39 = .ok (.aload_n 0, 1) := by decide +kernel
theorem dX9_endsWithSum_40 : decode cX9_endsWithSum 40 = .ok (.getfield 20, 3) := by decide +kernel
theorem dX9_endsWithSum_43 : decode cX9_endsWithSum 43 = .ok (.iconst 0, 1) := by decide +kernel
theorem dX9_endsWithSum_44 : decode cX9_endsWithSum 44 = .ok (.aload_n 0, 1) := by decide +kernel
theorem dX9_endsWithSum_45 : decode cX9_endsWithSum 45 = .ok (.getfield 20, 3) := by decide +kernel
theorem dX9_endsWithSum_48 : decode cX9_endsWithSum 48 = .ok (.getfield 60, 3) := by decide +kernel
theorem dX9_endsWithSum_51 : decode cX9_endsWithSum 51 = .ok (.invokestatic 100, 3) := by decide +kernel
theorem dX9_endsWithSum_54 : decode cX9_endsWithSum 54 = .ok (.if_icmp .ne 7, 3) := by decide +kernel
theorem dX9_endsWithSum_57 : decode cX9_endsWithSum 57 = .ok (.iconst 1, 1) := by decide +kernel
theorem dX9_endsWithSum_58 : decode cX9_endsWithSum 58 = .ok (.goto 4, 3) := by decide +kernel
theorem dX9_endsWithSum_61 : decode cX9_endsWithSum 61 = .ok (.iconst 0, 1) := by decide +kernel
theorem dX9_endsWithSum_62 : decode cX9_endsWithSum 62 = .ok (.ireturn, 1) := by decide +kernel
theorem dX9_copyPlain_0 : decode cX9_copyPlain 0 = .ok (.aload_n 0, 1) := by decide +kernel
theorem dX9_copyPlain_1 : decode cX9_copyPlain 1 = .ok (.getfield 28, 3) := by decide +kernel
theorem dX9_copyPlain_4 : decode cX9_copyPlain 4 = .ok (.invokevirtual 94, 3) := by decide +kernel
theorem dX9_copyPlain_7 : decode cX9_copyPlain 7 = .ok (.aload_n 0, 1) := by decide +kernel
theorem dX9_copyPlain_8 : decode cX9_copyPlain 8 = .ok (.getfield 28, 3) := by decide +kernel
theorem dX9_copyPlain_11 : decode cX9_copyPlain 11 = .ok (.bipush 16, 2) := by decide +kernel
theorem dX9_copyPlain_13 : decode cX9_copyPlain 13 = .ok (.invokevirtual 63, 3) := by decide +kernel
theorem dX9_copyPlain_16 : decode cX9_copyPlain 16 = .ok (.istore_n 1, 1) := by decide +kernel
theorem dX9_copyPlain_17 : decode cX9_copyPlain 17 = .ok (.aload_n 0, 1) := by decide +kernel
theorem dX9_copyPlain_18 : decode cX9_copyPlain 18 = .ok (.getfield 28, 3) := by decide +kernel
theorem dX9_copyPlain_21 : decode cX9_copyPlain 21 = .ok (.bipush 16, 2) := by decide +kernel
theorem dX9_copyPlain_23 : decode cX9_copyPlain 23 = .ok (.invokevirtual 63, 3) := by decide +kernel
theorem dX9_copyPlain_26 : decode cX9_copyPlain 26 = .ok (.istore_n 2, 1) := by decide +kernel
theorem dX9_copyPlain_27 : decode cX9_copyPlain 27 = .ok (.iload_n 1, 1) := by decide +kernel
theorem dX9_copyPlain_28 : decode cX9_copyPlain 28 = .ok (.ifCond .lt 15, 3) := by decide +kernel
theorem dX9_copyPlain_31 : decode cX9_copyPlain 31 = .ok (.iload_n 2, 1) := by decide +kernel
theorem dX9_copyPlain_32 : decode cX9_copyPlain 32 = .ok (.ifCond .lt 11, 3) := by decide +kernel
theorem dX9_copyPlain_35 : decode cX9_copyPlain 35 = .ok (.iload_n 1, 1) := by decide +kernel
theorem dX9_copyPlain_36 : decode cX9_copyPlain 36 = .ok (.iload_n 2, 1) := by decide +kernel
theorem dX9_copyPlain_37 : decode cX9_copyPlain 37 = .ok (.ixor, 1) := by decide +kernel
theorem dX9_copyPlain_38 : decode cX9_copyPlain 38 = .ok (.ldc 106, 2) := by decide +kernel
theorem dX9_copyPlain_40 : decode cX9_copyPlain 40 = .ok (.if_icmp .eq 5, 3) := by decide +kernel
theorem dX9_copyPlain_43 : decode cX9_copyPlain 43 = .ok (.iconst 0, 1) := by decide +kernel
theorem dX9_copyPlain_44 : decode cX9_copyPlain 44 = .ok (.ireturn, 1) := by decide +kernel
theorem dX9_copyPlain_45 : decode cX9_copyPlain 45 = .ok (.aload_n 0, 1) := by decide +kernel
theorem dX9_copyPlain_46 : decode cX9_copyPlain 46 = .ok (.getfield 28, 3) := by decide +kernel
theorem dX9_copyPlain_49 : decode cX9_copyPlain 49 = .ok (.getfield 56, 3) := by decide +kernel
theorem dX9_copyPlain_52 : decode cX9_copyPlain 52 = .ok (.bipush 8, 2) := by decide +kernel
theorem dX9_copyPlain_54 : decode cX9_copyPlain 54 = .ok (.idiv, 1) := by decide +kernel
theorem dX9_copyPlain_55 : decode cX9_copyPlain 55 = .ok (.istore_n 3, 1) := by decide +kernel
theorem dX9_copyPlain_56 : decode cX9_copyPlain 56 = .ok (.iload_n 1, 1) := by decide +kernel
theorem dX9_copyPlain_57 : decode cX9_copyPlain 57 = .ok (.aload_n 0, 1) := by decide +kernel
theorem dX9_copyPlain_58 : decode cX9_copyPlain 58 = .ok (.getfield 14, 3) := by decide +kernel
theorem dX9_copyPlain_61 : decode cX9_copyPlain 61 = .ok (.getfield 60, 3) := by decide +kernel
theorem dX9_copyPlain_64 : decode cX9_copyPlain 64 = .ok (.iload_n 3, 1) := by decide +kernel
theorem dX9_copyPlain_65 : decode cX9_copyPlain 65 = .ok (.isub, 1) := by decide +kernel
theorem dX9_copyPlain_66 : decode cX9_copyPlain 66 = .ok (.if_icmp .gt 14, 3) := by decide +kernel
theorem dX9_copyPlain_69 : decode cX9_copyPlain 69 = .ok (.aload_n 0, 1) := by decide +kernel
theorem dX9_copyPlain_70 : decode cX9_copyPlain 70 = .ok (.getfield 20, 3) := by decide +kernel
theorem dX9_copyPlain_73 : decode cX9_copyPlain 73 = .ok (.iload_n 1, 1) := by decide +kernel
theorem dX9_copyPlain_74 : decode cX9_copyPlain 74 = .ok (.invokevirtual 107, 3) := by decide +kernel
theorem dX9_copyPlain_77 : decode cX9_copyPlain 77 = .ok (.ifCond .ne 5, 3) := by decide +kernel
theorem dX9_copyPlain_80 : decode cX9_copyPlain 80 = .ok (.iconst 0, 1) := by decide +kernel
theorem dX9_copyPlain_81 : decode cX9_copyPlain 81 = .ok (.ireturn, 1) := by decide +kernel
theorem dX9_copyPlain_82 : decode cX9_copyPlain 82 = .ok (.aload_n 0, 1) := by decide +kernel
theorem dX9_copyPlain_83 : decode cX9_copyPlain 83 = .ok (.getfield 20, 3) := by decide +kernel
theorem dX9_copyPlain_86 : decode cX9_copyPlain 86 = .ok (.aload_n 0, 1) := by decide +kernel
theorem dX9_copyPlain_87 : decode cX9_copyPlain 87 = .ok (.getfield 14, 3) := by decide +kernel
theorem dX9_copyPlain_90 : decode cX9_copyPlain 90 = .ok (.iload_n 3, 1) := by decide +kernel
theorem dX9_copyPlain_91 : decode cX9_copyPlain 91 = .ok (.iload_n 3, 1) := by decide +kernel
theorem dX9_copyPlain_92 : decode cX9_copyPlain 92 = .ok (.iload_n 1, 1) := by decide +kernel
theorem dX9_copyPlain_93 : decode cX9_copyPlain 93 = .ok (.iadd, 1) := by decide +kernel
theorem dX9_copyPlain_94 : decode cX9_copyPlain 94 = .ok (.invokevirtual 110, 3) := by decide +kernel
theorem dX9_copyPlain_97 : decode cX9_copyPlain 97 = .ok (.aload_n 0, 1) := by decide +kernel
theorem dX9_copyPlain_98 : decode cX9_copyPlain 98 = .ok (.getfield 28, 3) := by decide +kernel
theorem dX9_copyPlain_101 : decode cX9_copyPlain 101 = .ok (.dup, 1) := by decide +kernel
theorem dX9_copyPlain_102 : decode cX9_copyPlain 102 = .ok (.getfield 56, 3) := by decide +kernel
theorem dX9_copyPlain_105 : decode cX9_copyPlain 105 = .ok (.iload_n 1, 1) := by decide +kernel
theorem dX9_copyPlain_106 : decode cX9_copyPlain 106 = .ok (.bipush 8, 2) := by decide +kernel
theorem dX9_copyPlain_108 : decode cX9_copyPlain 108 = .ok (.imul, 1) := by decide +kernel
theorem dX9_copyPlain_109 : decode cX9_copyPlain 109 = .ok (.iadd, 1) := by decide +kernel
theorem dX9_copyPlain_110 : decode cX9_copyPlain 110 = .ok (.putfield 56, 3) := by decide +kernel
theorem dX9_copyPlain_113 : decode cX9_copyPlain 113 = .ok (.iconst 1, 1) := by decide +kernel
theorem dX9_copyPlain_114 : decode cX9_copyPlain 114 = .ok (.ireturn, 1) := by decide +kernel
theorem dX9_fixCodes_0 : decode cX9_fixCodes 0 = .ok (.iconst 0, 1) := by decide +kernel
theorem dX9_fixCodes_1 : decode cX9_fixCodes 1 = .ok (.istore_n 1, 1) := by decide +kernel
theorem dX9_fixCodes_2 : decode cX9_fixCodes 2 = .ok (.iload_n 1, 1) := by decide +kernel
theorem dX9_fixCodes_3 : decode cX9_fixCodes 3 = .ok (.sipush 288, 3) := by decide +kernel
theorem dX9_fixCodes_6 : decode cX9_fixCodes 6 = .ok (.if_icmp .ge 53, 3) := by decide +kernel
theorem dX9_fixCodes_9 : decode cX9_fixCodes 9 = .ok (.aload_n 0, 1) := by decide +kernel
theorem dX9_fixCodes_10 : decode cX9_fixCodes 10 = .ok (.getfield 45, 3) := by decide +kernel
theorem dX9_fixCodes_13 : decode cX9_fixCodes 13 = .ok (.iload_n 1, 1) := by decide +kernel
theorem dX9_fixCodes_14 : decode cX9_fixCodes 14 = .ok (.iload_n 1, 1) := by decide +kernel
theorem dX9_fixCodes_15 : decode cX9_fixCodes 15 = .ok (.sipush 144, 3) := by decide +kernel
theorem dX9_fixCodes_18 : decode cX9_fixCodes 18 = .ok (.if_icmp .ge 8, 3) := by decide +kernel
theorem dX9_fixCodes_21 : decode cX9_fixCodes 21 = .ok (.bipush 8, 2) := by decide +kernel
theorem dX9_fixCodes_23 : decode cX9_fixCodes 23 = .ok (.goto 29, 3) := by decide +kernel
theorem dX9_fixCodes_26 : decode cX9_fixCodes 26 = .ok (.iload_n 1, 1) := by decide +kernel
theorem dX9_fixCodes_27 : decode cX9_fixCodes 27 = .ok (.sipush 256, 3) := by decide +kernel
theorem dX9_fixCodes_30 : decode cX9_fixCodes 30 = .ok (.if_icmp .ge 8, 3) := by decide +kernel
theorem dX9_fixCodes_33 : decode cX9_fixCodes 33 = .ok (.bipush 9, 2) := by decide +kernel
theorem dX9_fixCodes_35 : decode cX9_fixCodes 35 = .ok (.goto 17, 3) := by decide +kernel
theorem dX9_fixCodes_38 : decode cX9_fixCodes 38 = .ok (.iload_n 1, 1) := by decide +kernel
theorem dX9_fixCodes_39 : decode cX9_fixCodes 39 = .ok (.sipush 280, 3) := by decide +kernel
theorem dX9_fixCodes_42 : decode cX9_fixCodes 42 = .ok (.if_icmp .ge 8, 3) := by decide +kernel
theorem dX9_fixCodes_45 : decode cX9_fixCodes 45 = .ok (.bipush 7, 2) := by decide +kernel
theorem dX9_fixCodes_47 : decode cX9_fixCodes 47 = .ok (.goto 5, 3) := by decide +kernel
theorem dX9_fixCodes_50 : decode cX9_fixCodes 50 = .ok (.bipush 8, 2) := by decide +kernel
theorem dX9_fixCodes_52 : decode cX9_fixCodes 52 = .ok (.iastore, 1) := by decide +kernel
theorem dX9_fixCodes_53 : decode cX9_fixCodes 53 = .ok (.iinc 1 1, 3) := by decide +kernel
theorem dX9_fixCodes_56 : decode cX9_fixCodes 56 = .ok (.goto (-54), 3) := by decide +kernel
theorem dX9_fixCodes_59 : decode cX9_fixCodes 59 = .ok (.iconst 0, 1) := by decide +kernel
theorem dX9_fixCodes_60 : decode cX9_fixCodes 60 = .ok (.istore_n 1, 1) := by decide +kernel
theorem dX9_fixCodes_61 : decode cX9_fixCodes 61 = .ok (.iload_n 1, 1) := by decide +kernel
theorem dX9_fixCodes_62 : decode cX9_fixCodes 62 = .ok (.bipush 32, 2) := by decide +kernel
theorem dX9_fixCodes_64 : decode cX9_fixCodes 64 = .ok (.if_icmp .ge 20, 3) := by decide +kernel
theorem dX9_fixCodes_67 : decode cX9_fixCodes 67 = .ok (.aload_n 0, 1) := by decide +kernel
theorem dX9_fixCodes_68 : decode cX9_fixCodes 68 = .ok (.getfield 45, 3) := by decide +kernel
theorem dX9_fixCodes_71 : decode cX9_fixCodes 71 = .ok (.sipush 288, 3) := by decide +kernel
theorem dX9_fixCodes_74 : decode cX9_fixCodes 74 = .ok (.iload_n 1, 1) := by decide +kernel
theorem dX9_fixCodes_75 : decode cX9_fixCodes 75 = .ok (.iadd, 1) := by decide +kernel
theorem dX9_fixCodes_76 : decode cX9_fixCodes 76 = .ok (.iconst 5, 1) := by decide +kernel
theorem dX9_fixCodes_77 : decode cX9_fixCodes 77 = .ok (.iastore, 1) := by decide +kernel
theorem dX9_fixCodes_78 : decode cX9_fixCodes 78 = .ok (.iinc 1 1, 3) := by decide +kernel
theorem dX9_fixCodes_81 : decode cX9_fixCodes 81 = .ok (.goto (-20), 3) := by decide +kernel
theorem dX9_fixCodes_84 : decode cX9_fixCodes 84 = .ok (.aload_n 0, 1) := by decide +kernel
theorem dX9_fixCodes_85 : decode cX9_fixCodes 85 = .ok (.getfield 39, 3) := by decide +kernel
theorem dX9_fixCodes_88 : decode cX9_fixCodes 88 = .ok (.aload_n 0, 1) := by decide +kernel
theorem dX9_fixCodes_89 : decode cX9_fixCodes 89 = .ok (.getfield 45, 3) := by decide +kernel
theorem dX9_fixCodes_92 : decode cX9_fixCodes 92 = .ok (.iconst 0, 1) := by decide +kernel
theorem dX9_fixCodes_93 : decode cX9_fixCodes 93 = .ok (.sipush 288, 3) := by decide +kernel
theorem dX9_fixCodes_96 : decode cX9_fixCodes 96 = .ok (.invokevirtual 114, 3) := by decide +kernel
theorem dX9_fixCodes_99 : decode cX9_fixCodes 99 = .ok (.pop, 1) := by decide +kernel
theorem dX9_fixCodes_100 : decode cX9_fixCodes 100 = .ok (.aload_n 0, 1) := by decide +kernel
theorem dX9_fixCodes_101 : decode cX9_fixCodes 101 = .ok (.getfield 42, 3) := by decide +kernel
theorem dX9_fixCodes_104 : decode cX9_fixCodes 104 = .ok (.aload_n 0, 1) := by decide +kernel
theorem dX9_fixCodes_105 : decode cX9_fixCodes 105 = .ok (.getfield 45, 3) := by decide +kernel
theorem dX9_fixCodes_108 : decode cX9_fixCodes 108 = .ok (.sipush 288, 3) := by decide +kernel
theorem dX9_fixCodes_111 : decode cX9_fixCodes 111 = .ok (.bipush 32, 2) := by decide +kernel
theorem dX9_fixCodes_113 : decode cX9_fixCodes 113 = .ok (.invokevirtual 114, 3) := by decide +kernel
theorem dX9_fixCodes_116 : decode cX9_fixCodes 116 = .ok (.pop, 1) := by decide +kernel
theorem dX9_fixCodes_117 : decode cX9_fixCodes 117 = .ok (.return_, 1) := by decide +kernel
theorem dX9_takeTellers_0 : decode cX9_takeTellers 0 = .ok (.aload_n 0, 1) := by decide +kernel
theorem dX9_takeTellers_1 : decode cX9_takeTellers 1 = .ok (.getfield 28, 3) := by decide +kernel
theorem dX9_takeTellers_4 : decode cX9_takeTellers 4 = .ok (.bipush 14, 2) := by decide +kernel
theorem dX9_takeTellers_6 : decode cX9_takeTellers 6 = .ok (.invokevirtual 63, 3) := by decide +kernel
theorem dX9_takeTellers_9 : decode cX9_takeTellers 9 = .ok (.istore_n 1, 1) := by decide +kernel
theorem dX9_takeTellers_10 : decode cX9_takeTellers 10 = .ok (.aload_n 0, 1) := by decide +kernel
theorem dX9_takeTellers_11 : decode cX9_takeTellers 11 = .ok (.iload_n 1, 1) := by decide +kernel
theorem dX9_takeTellers_12 : decode cX9_takeTellers 12 = .ok (.bipush 31, 2) := by decide +kernel
theorem dX9_takeTellers_14 : decode cX9_takeTellers 14 = .ok (.iand, 1) := by decide +kernel
theorem dX9_takeTellers_15 : decode cX9_takeTellers 15 = .ok (.sipush 257, 3) := by decide +kernel
theorem dX9_takeTellers_18 : decode cX9_takeTellers 18 = .ok (.iadd, 1) := by decide +kernel
theorem dX9_takeTellers_19 : decode cX9_takeTellers 19 = .ok (.putfield 118, 3) := by decide +kernel
theorem dX9_takeTellers_22 : decode cX9_takeTellers 22 = .ok (.aload_n 0, 1) := by decide +kernel
theorem dX9_takeTellers_23 : decode cX9_takeTellers 23 = .ok (.iload_n 1, 1) := by decide +kernel
theorem dX9_takeTellers_24 : decode cX9_takeTellers 24 = .ok (.iconst 5, 1) := by decide +kernel
theorem dX9_takeTellers_25 : decode cX9_takeTellers 25 = .ok (.ishr, 1) := by decide +kernel
theorem dX9_takeTellers_26 : decode cX9_takeTellers 26 = .ok (.bipush 31, 2) := by decide +kernel
theorem dX9_takeTellers_28 : decode cX9_takeTellers 28 = .ok (.iand, 1) := by decide +kernel
theorem dX9_takeTellers_29 : decode cX9_takeTellers 29 = .ok (.iconst 1, 1) := by decide +kernel
theorem dX9_takeTellers_30 : decode cX9_takeTellers 30 = .ok (.iadd, 1) := by decide +kernel
theorem dX9_takeTellers_31 : decode cX9_takeTellers 31 = .ok (.putfield 121, 3) := by decide +kernel
theorem dX9_takeTellers_34 : decode cX9_takeTellers 34 = .ok (.iload_n 1, 1) := by decide +kernel
theorem dX9_takeTellers_35 : decode cX9_takeTellers 35 = .ok (.ifCond .lt 22, 3) := by decide +kernel
theorem dX9_takeTellers_38 : decode cX9_takeTellers 38 = .ok (.aload_n 0, 1) := by decide +kernel
theorem dX9_takeTellers_39 : decode cX9_takeTellers 39 = .ok (.getfield 118, 3) := by decide +kernel
theorem dX9_takeTellers_42 : decode cX9_takeTellers 42 = .ok (.sipush 286, 3) := by decide +kernel
theorem dX9_takeTellers_45 : decode cX9_takeTellers 45 = .ok (.if_icmp .gt 12, 3) := by decide +kernel
theorem dX9_takeTellers_48 : decode cX9_takeTellers 48 = .ok (.aload_n 0, 1) := by decide +kernel
theorem dX9_takeTellers_49 : decode cX9_takeTellers 49 = .ok (.getfield 121, 3) := by decide +kernel
theorem dX9_takeTellers_52 : decode cX9_takeTellers 52 = .ok (.bipush 30, 2) := by decide +kernel
theorem dX9_takeTellers_54 : decode cX9_takeTellers 54 = .ok (.if_icmp .le 5, 3) := by decide +kernel
theorem dX9_takeTellers_57 : decode cX9_takeTellers 57 = .ok (.iconst 0, 1) := by decide +kernel
theorem dX9_takeTellers_58 : decode cX9_takeTellers 58 = .ok (.ireturn, 1) := by decide +kernel
theorem dX9_takeTellers_59 : decode cX9_takeTellers 59 = .ok (.iload_n 1, 1) := by decide +kernel
theorem dX9_takeTellers_60 : decode cX9_takeTellers 60 = .ok (.bipush 10, 2) := by decide +kernel
theorem dX9_takeTellers_62 : decode cX9_takeTellers 62 = .ok (.ishr, 1) := by decide +kernel
theorem dX9_takeTellers_63 : decode cX9_takeTellers 63 = .ok (.iconst 4, 1) := by decide +kernel
theorem dX9_takeTellers_64 : decode cX9_takeTellers 64 = .ok (.iadd, 1) := by decide +kernel
theorem dX9_takeTellers_65 : decode cX9_takeTellers 65 = .ok (.istore_n 2, 1) := by decide +kernel
theorem dX9_takeTellers_66 : decode cX9_takeTellers 66 = .ok (.aload_n 0, 1) := by decide +kernel
theorem dX9_takeTellers_67 : decode cX9_takeTellers 67 = .ok (.getfield 45, 3) := by decide +kernel
theorem dX9_takeTellers_70 : decode cX9_takeTellers 70 = .ok (.iconst 0, 1) := by decide +kernel
theorem dX9_takeTellers_71 : decode cX9_takeTellers 71 = .ok (.invokestatic 124, 3) := by decide +kernel
theorem dX9_takeTellers_74 : decode cX9_takeTellers 74 = .ok (.iconst 0, 1) := by decide +kernel
theorem dX9_takeTellers_75 : decode cX9_takeTellers 75 = .ok (.istore_n 3, 1) := by decide +kernel
theorem dX9_takeTellers_76 : decode cX9_takeTellers 76 = .ok (.iload_n 3, 1) := by decide +kernel
theorem dX9_takeTellers_77 : decode cX9_takeTellers 77 = .ok (.iload_n 2, 1) := by decide +kernel
theorem dX9_takeTellers_78 : decode cX9_takeTellers 78 = .ok (.if_icmp .ge 38, 3) := by decide +kernel
theorem dX9_takeTellers_81 : decode cX9_takeTellers 81 = .ok (.aload_n 0, 1) := by decide +kernel
theorem dX9_takeTellers_82 : decode cX9_takeTellers 82 = .ok (.getfield 28, 3) := by decide +kernel
theorem dX9_takeTellers_85 : decode cX9_takeTellers 85 = .ok (.iconst 3, 1) := by decide +kernel
theorem dX9_takeTellers_86 : decode cX9_takeTellers 86 = .ok (.invokevirtual 63, 3) := by decide +kernel
theorem dX9_takeTellers_89 : decode cX9_takeTellers 89 = .ok (.istore 4, 2) := by decide +kernel
theorem dX9_takeTellers_91 : decode cX9_takeTellers 91 = .ok (.iload 4, 2) := by decide +kernel
theorem dX9_takeTellers_93 : decode cX9_takeTellers 93 = .ok (.ifCond .ge 5, 3) := by decide +kernel
theorem dX9_takeTellers_96 : decode cX9_takeTellers 96 = .ok (.iconst 0, 1) := by decide +kernel
theorem dX9_takeTellers_97 : decode cX9_takeTellers 97 = .ok (.ireturn, 1) := by decide +kernel
theorem dX9_takeTellers_98 : decode cX9_takeTellers 98 = .ok (.aload_n 0, 1) := by decide +kernel
theorem dX9_takeTellers_99 : decode cX9_takeTellers 99 = .ok (.getfield 45, 3) := by decide +kernel
theorem dX9_takeTellers_102 : decode cX9_takeTellers 102 = .ok (.getstatic 130, 3) := by decide +kernel
theorem dX9_takeTellers_105 : decode cX9_takeTellers 105 = .ok (.iload_n 3, 1) := by decide +kernel
theorem dX9_takeTellers_106 : decode cX9_takeTellers 106 = .ok (.iaload, 1) := by decide +kernel
theorem dX9_takeTellers_107 : decode cX9_takeTellers 107 = .ok (.iload 4, 2) := by decide +kernel
theorem dX9_takeTellers_109 : decode cX9_takeTellers 109 = .ok (.iastore, 1) := by decide +kernel
theorem dX9_takeTellers_110 : decode cX9_takeTellers 110 = .ok (.iinc 3 1, 3) := by decide +kernel
theorem dX9_takeTellers_113 : decode cX9_takeTellers 113 = .ok (.goto (-37), 3) := by decide +kernel
theorem dX9_takeTellers_116 : decode cX9_takeTellers 116 = .ok (.aload_n 0, 1) := by decide +kernel
theorem dX9_takeTellers_117 : decode cX9_takeTellers 117 = .ok (.getfield 35, 3) := by decide +kernel
theorem dX9_takeTellers_120 : decode cX9_takeTellers 120 = .ok (.aload_n 0, 1) := by decide +kernel
theorem dX9_takeTellers_121 : decode cX9_takeTellers 121 = .ok (.getfield 45, 3) := by decide +kernel
theorem dX9_takeTellers_124 : decode cX9_takeTellers 124 = .ok (.iconst 0, 1) := by decide +kernel
theorem dX9_takeTellers_125 : decode cX9_takeTellers 125 = .ok (.getstatic 130, 3) := by decide +kernel
theorem dX9_takeTellers_128 : decode cX9_takeTellers 128 = .ok (.arraylength, 1) := by decide +kernel
theorem dX9_takeTellers_129 : decode cX9_takeTellers 129 = .ok (.invokevirtual 114, 3) := by decide +kernel
theorem dX9_takeTellers_132 : decode cX9_takeTellers 132 = .ok (.ifCond .ne 7, 3) := by decide +kernel
theorem dX9_takeTellers_135 : decode cX9_takeTellers 135 = .ok (.iconst 1, 1) := by decide +kernel
theorem dX9_takeTellers_136 : decode cX9_takeTellers 136 = .ok (.goto 4, 3) := by decide +kernel
theorem dX9_takeTellers_139 : decode cX9_takeTellers 139 = .ok (.iconst 0, 1) := by decide +kernel
theorem dX9_takeTellers_140 : decode cX9_takeTellers 140 = .ok (.ireturn, 1) := by decide +kernel
theorem dX9_takeLengths_0 : decode cX9_takeLengths 0 = .ok (.aload_n 0, 1) := by decide +kernel
theorem dX9_takeLengths_1 : decode cX9_takeLengths 1 = .ok (.getfield 118, 3) := by decide +kernel
theorem dX9_takeLengths_4 : decode cX9_takeLengths 4 = .ok (.aload_n 0, 1) := by decide +kernel
theorem dX9_takeLengths_5 : decode cX9_takeLengths 5 = .ok (.getfield 121, 3) := by decide +kernel
theorem dX9_takeLengths_8 : decode cX9_takeLengths 8 = .ok (.iadd, 1) := by decide +kernel
theorem dX9_takeLengths_9 : decode cX9_takeLengths 9 = .ok (.istore_n 1, 1) := by decide +kernel
theorem dX9_takeLengths_10 : decode cX9_takeLengths 10 = .ok (.iconst 0, 1) := by decide +kernel
theorem dX9_takeLengths_11 : decode cX9_takeLengths 11 = .ok (.istore_n 2, 1) := by decide +kernel
theorem dX9_takeLengths_12 : decode cX9_takeLengths 12 = .ok (.iconst 0, 1) := by decide +kernel
theorem dX9_takeLengths_13 : decode cX9_takeLengths 13 = .ok (.istore_n 3, 1) := by decide +kernel
theorem dX9_takeLengths_14 : decode cX9_takeLengths 14 = .ok (.iload_n 3, 1) := by decide +kernel
theorem dX9_takeLengths_15 : decode cX9_takeLengths 15 = .ok (.iload_n 1, 1) := by decide +kernel
theorem dX9_takeLengths_16 : decode cX9_takeLengths 16 = .ok (.if_icmp .ge 164, 3) := by decide +kernel
theorem dX9_takeLengths_19 : decode cX9_takeLengths 19 = .ok (.iload_n 2, 1) := by decide +kernel
theorem dX9_takeLengths_20 : decode cX9_takeLengths 20 = .ok (.iload_n 1, 1) := by decide +kernel
theorem dX9_takeLengths_21 : decode cX9_takeLengths 21 = .ok (.if_icmp .ge 159, 3) := by decide +kernel
theorem dX9_takeLengths_24 : decode cX9_takeLengths 24 = .ok (.aload_n 0, 1) := by decide +kernel
theorem dX9_takeLengths_25 : decode cX9_takeLengths 25 = .ok (.getfield 28, 3) := by decide +kernel
theorem dX9_takeLengths_28 : decode cX9_takeLengths 28 = .ok (.aload_n 0, 1) := by decide +kernel
theorem dX9_takeLengths_29 : decode cX9_takeLengths 29 = .ok (.getfield 35, 3) := by decide +kernel
theorem dX9_takeLengths_32 : decode cX9_takeLengths 32 = .ok (.invokevirtual 133, 3) := by decide +kernel
theorem dX9_takeLengths_35 : decode cX9_takeLengths 35 = .ok (.istore 4, 2) := by decide +kernel
theorem dX9_takeLengths_37 : decode cX9_takeLengths 37 = .ok (.iload 4, 2) := by decide +kernel
theorem dX9_takeLengths_39 : decode cX9_takeLengths 39 = .ok (.ifCond .lt 14, 3) := by decide +kernel
theorem dX9_takeLengths_42 : decode cX9_takeLengths 42 = .ok (.iload 4, 2) := by decide +kernel
theorem dX9_takeLengths_44 : decode cX9_takeLengths 44 = .ok (.bipush 16, 2) := by decide +kernel
theorem dX9_takeLengths_46 : decode cX9_takeLengths 46 = .ok (.if_icmp .ne 9, 3) := by decide +kernel
theorem dX9_takeLengths_49 : decode cX9_takeLengths 49 = .ok (.iload_n 2, 1) := by decide +kernel
theorem dX9_takeLengths_50 : decode cX9_takeLengths 50 = .ok (.ifCond .ne 5, 3) := by decide +kernel
theorem dX9_takeLengths_53 : decode cX9_takeLengths 53 = .ok (.iconst 0, 1) := by decide +kernel
theorem dX9_takeLengths_54 : decode cX9_takeLengths 54 = .ok (.ireturn, 1) := by decide +kernel
theorem dX9_takeLengths_55 : decode cX9_takeLengths 55 = .ok (.iload 4, 2) := by decide +kernel
theorem dX9_takeLengths_57 : decode cX9_takeLengths 57 = .ok (.bipush 16, 2) := by decide +kernel
theorem dX9_takeLengths_59 : decode cX9_takeLengths 59 = .ok (.if_icmp .ge 7, 3) := by decide +kernel
theorem dX9_takeLengths_62 : decode cX9_takeLengths 62 = .ok (.iconst 0, 1) := by decide +kernel
theorem dX9_takeLengths_63 : decode cX9_takeLengths 63 = .ok (.goto 8, 3) := by decide +kernel
theorem dX9_takeLengths_66 : decode cX9_takeLengths 66 = .ok (.iload 4, 2) := by decide +kernel
theorem dX9_takeLengths_68 : decode cX9_takeLengths 68 = .ok (.bipush 15, 2) := by decide +kernel
theorem dX9_takeLengths_70 : decode cX9_takeLengths 70 = .ok (.isub, 1) := by decide +kernel
theorem dX9_takeLengths_71 : decode cX9_takeLengths 71 = .ok (.istore 5, 2) := by decide +kernel
theorem dX9_takeLengths_73 : decode cX9_takeLengths 73 = .ok (.aload_n 0, 1) := by decide +kernel
theorem dX9_takeLengths_74 : decode cX9_takeLengths 74 = .ok (.getfield 28, 3) := by decide +kernel
theorem dX9_takeLengths_77 : decode cX9_takeLengths 77 = .ok (.getstatic 137, 3) := by decide +kernel
theorem dX9_takeLengths_80 : decode cX9_takeLengths 80 = .ok (.iload 5, 2) := by decide +kernel
theorem dX9_takeLengths_82 : decode cX9_takeLengths 82 = .ok (.iaload, 1) := by decide +kernel
theorem dX9_takeLengths_83 : decode cX9_takeLengths 83 = .ok (.invokevirtual 63, 3) := by decide +kernel
theorem dX9_takeLengths_86 : decode cX9_takeLengths 86 = .ok (.istore 6, 2) := by decide +kernel
theorem dX9_takeLengths_88 : decode cX9_takeLengths 88 = .ok (.getstatic 140, 3) := by decide +kernel
theorem dX9_takeLengths_91 : decode cX9_takeLengths 91 = .ok (.iload 5, 2) := by decide +kernel
theorem dX9_takeLengths_93 : decode cX9_takeLengths 93 = .ok (.iaload, 1) := by decide +kernel
theorem dX9_takeLengths_94 : decode cX9_takeLengths 94 = .ok (.iload 6, 2) := by decide +kernel
theorem dX9_takeLengths_96 : decode cX9_takeLengths 96 = .ok (.iadd, 1) := by decide +kernel
theorem dX9_takeLengths_97 : decode cX9_takeLengths 97 = .ok (.istore 7, 2) := by decide +kernel
theorem dX9_takeLengths_99 : decode cX9_takeLengths 99 = .ok (.iload 6, 2) := by decide +kernel
theorem dX9_takeLengths_101 : decode cX9_takeLengths 101 = .ok (.ifCond .lt 11, 3) := by decide +kernel
theorem dX9_takeLengths_104 : decode cX9_takeLengths 104 = .ok (.iload 7, 2) := by decide +kernel
theorem dX9_takeLengths_106 : decode cX9_takeLengths 106 = .ok (.iload_n 1, 1) := by decide +kernel
theorem dX9_takeLengths_107 : decode cX9_takeLengths 107 = .ok (.iload_n 2, 1) := by decide +kernel
theorem dX9_takeLengths_108 : decode cX9_takeLengths 108 = .ok (.isub, 1) := by decide +kernel
theorem dX9_takeLengths_109 : decode cX9_takeLengths 109 = .ok (.if_icmp .le 5, 3) := by decide +kernel
theorem dX9_takeLengths_112 : decode cX9_takeLengths 112 = .ok (.iconst 0, 1) := by decide +kernel
theorem dX9_takeLengths_113 : decode cX9_takeLengths 113 = .ok (.ireturn, 1) := by decide +kernel
theorem dX9_takeLengths_114 : decode cX9_takeLengths 114 = .ok (.iload 4, 2) := by decide +kernel
theorem dX9_takeLengths_116 : decode cX9_takeLengths 116 = .ok (.bipush 16, 2) := by decide +kernel
theorem dX9_takeLengths_118 : decode cX9_takeLengths 118 = .ok (.if_icmp .ge 8, 3) := by decide +kernel
theorem dX9_takeLengths_121 : decode cX9_takeLengths 121 = .ok (.iload 4, 2) := by decide +kernel
theorem dX9_takeLengths_123 : decode cX9_takeLengths 123 = .ok (.goto 22, 3) := by decide +kernel
theorem dX9_takeLengths_126 : decode cX9_takeLengths 126 = .ok (.iload 4, 2) := by decide +kernel
theorem dX9_takeLengths_128 : decode cX9_takeLengths 128 = .ok (.bipush 16, 2) := by decide +kernel
theorem dX9_takeLengths_130 : decode cX9_takeLengths 130 = .ok (.if_icmp .ne 14, 3) := by decide +kernel
theorem dX9_takeLengths_133 : decode cX9_takeLengths 133 = .ok (.aload_n 0, 1) := by decide +kernel
theorem dX9_takeLengths_134 : decode cX9_takeLengths 134 = .ok (.getfield 45, 3) := by decide +kernel
theorem dX9_takeLengths_137 : decode cX9_takeLengths 137 = .ok (.iload_n 2, 1) := by decide +kernel
theorem dX9_takeLengths_138 : decode cX9_takeLengths 138 = .ok (.iconst 1, 1) := by decide +kernel
theorem dX9_takeLengths_139 : decode cX9_takeLengths 139 = .ok (.isub, 1) := by decide +kernel
theorem dX9_takeLengths_140 : decode cX9_takeLengths 140 = .ok (.iaload, 1) := by decide +kernel
theorem dX9_takeLengths_141 : decode cX9_takeLengths 141 = .ok (.goto 4, 3) := by decide +kernel
theorem dX9_takeLengths_144 : decode cX9_takeLengths 144 = .ok (.iconst 0, 1) := by decide +kernel
theorem dX9_takeLengths_145 : decode cX9_takeLengths 145 = .ok (.istore 8, 2) := by decide +kernel
theorem dX9_takeLengths_147 : decode cX9_takeLengths 147 = .ok (.iconst 0, 1) := by decide +kernel
theorem dX9_takeLengths_148 : decode cX9_takeLengths 148 = .ok (.istore 9, 2) := by decide +kernel
theorem dX9_takeLengths_150 : decode cX9_takeLengths 150 = .ok (.iload 9, 2) := by decide +kernel
theorem dX9_takeLengths_152 : decode cX9_takeLengths 152 = .ok (.iload 7, 2) := by decide +kernel
theorem dX9_takeLengths_154 : decode cX9_takeLengths 154 = .ok (.if_icmp .ge 20, 3) := by decide +kernel
theorem dX9_takeLengths_157 : decode cX9_takeLengths 157 = .ok (.aload_n 0, 1) := by decide +kernel
theorem dX9_takeLengths_158 : decode cX9_takeLengths 158 = .ok (.getfield 45, 3) := by decide +kernel
theorem dX9_takeLengths_161 : decode cX9_takeLengths 161 = .ok (.iload_n 2, 1) := by decide +kernel
theorem dX9_takeLengths_162 : decode cX9_takeLengths 162 = .ok (.iload 8, 2) := by decide +kernel
theorem dX9_takeLengths_164 : decode cX9_takeLengths 164 = .ok (.iastore, 1) := by decide +kernel
theorem dX9_takeLengths_165 : decode cX9_takeLengths 165 = .ok (.iinc 2 1, 3) := by decide +kernel
theorem dX9_takeLengths_168 : decode cX9_takeLengths 168 = .ok (.iinc 9 1, 3) := by decide +kernel
theorem dX9_takeLengths_171 : decode cX9_takeLengths 171 = .ok (.goto (-21), 3) := by decide +kernel
theorem dX9_takeLengths_174 : decode cX9_takeLengths 174 = .ok (.iinc 3 1, 3) := by decide +kernel
theorem dX9_takeLengths_177 : decode cX9_takeLengths 177 = .ok (.goto (-163), 3) := by decide +kernel
theorem dX9_takeLengths_180 : decode cX9_takeLengths 180 = .ok (.iconst 1, 1) := by decide +kernel
theorem dX9_takeLengths_181 : decode cX9_takeLengths 181 = .ok (.ireturn, 1) := by decide +kernel
theorem dX9_buildCodes_0 : decode cX9_buildCodes 0 = .ok (.aload_n 0, 1) := by decide +kernel
theorem dX9_buildCodes_1 : decode cX9_buildCodes 1 = .ok (.getfield 45, 3) := by decide +kernel
theorem dX9_buildCodes_4 : decode cX9_buildCodes 4 = .ok (.sipush 256, 3) := by decide +kernel
theorem dX9_buildCodes_7 : decode cX9_buildCodes 7 = .ok (.iaload, 1) := by decide +kernel
theorem dX9_buildCodes_8 : decode cX9_buildCodes 8 = .ok (.ifCond .eq 22, 3) := by decide +kernel
theorem dX9_buildCodes_11 : decode cX9_buildCodes 11 = .ok (.aload_n 0, 1) := by decide +kernel
theorem dX9_buildCodes_12 : decode cX9_buildCodes 12 = .ok (.getfield 39, 3) := by decide +kernel
theorem dX9_buildCodes_15 : decode cX9_buildCodes 15 = .ok (.aload_n 0, 1) := by decide +kernel
theorem dX9_buildCodes_16 : decode cX9_buildCodes 16 = .ok (.getfield 45, 3) := by decide +kernel
theorem dX9_buildCodes_19 : decode cX9_buildCodes 19 = .ok (.iconst 0, 1) := by decide +kernel
theorem dX9_buildCodes_20 : decode cX9_buildCodes 20 = .ok (.aload_n 0, 1) := by decide +kernel
theorem dX9_buildCodes_21 : decode cX9_buildCodes 21 = .ok (.getfield 118, 3) := by decide +kernel
theorem dX9_buildCodes_24 : decode cX9_buildCodes 24 = .ok (.invokevirtual 114, 3) := by decide +kernel
theorem dX9_buildCodes_27 : decode cX9_buildCodes 27 = .ok (.ifCond .eq 5, 3) := by decide +kernel
theorem dX9_buildCodes_30 : decode cX9_buildCodes 30 = .ok (.iconst 0, 1) := by decide +kernel
theorem dX9_buildCodes_31 : decode cX9_buildCodes 31 = .ok (.ireturn, 1) := by decide +kernel
theorem dX9_buildCodes_32 : decode cX9_buildCodes 32 = .ok (.aload_n 0, 1) := by decide +kernel
theorem dX9_buildCodes_33 : decode cX9_buildCodes 33 = .ok (.getfield 42, 3) := by decide +kernel
theorem dX9_buildCodes_36 : decode cX9_buildCodes 36 = .ok (.aload_n 0, 1) := by decide +kernel
theorem dX9_buildCodes_37 : decode cX9_buildCodes 37 = .ok (.getfield 45, 3) := by decide +kernel
theorem dX9_buildCodes_40 : decode cX9_buildCodes 40 = .ok (.aload_n 0, 1) := by decide +kernel
theorem dX9_buildCodes_41 : decode cX9_buildCodes 41 = .ok (.getfield 118, 3) := by decide +kernel
theorem dX9_buildCodes_44 : decode cX9_buildCodes 44 = .ok (.aload_n 0, 1) := by decide +kernel
theorem dX9_buildCodes_45 : decode cX9_buildCodes 45 = .ok (.getfield 121, 3) := by decide +kernel
theorem dX9_buildCodes_48 : decode cX9_buildCodes 48 = .ok (.invokevirtual 114, 3) := by decide +kernel
theorem dX9_buildCodes_51 : decode cX9_buildCodes 51 = .ok (.istore_n 1, 1) := by decide +kernel
theorem dX9_buildCodes_52 : decode cX9_buildCodes 52 = .ok (.iload_n 1, 1) := by decide +kernel
theorem dX9_buildCodes_53 : decode cX9_buildCodes 53 = .ok (.ifCond .eq 17, 3) := by decide +kernel
theorem dX9_buildCodes_56 : decode cX9_buildCodes 56 = .ok (.iload_n 1, 1) := by decide +kernel
theorem dX9_buildCodes_57 : decode cX9_buildCodes 57 = .ok (.ifCond .le 17, 3) := by decide +kernel
theorem dX9_buildCodes_60 : decode cX9_buildCodes 60 = .ok (.aload_n 0, 1) := by decide +kernel
theorem dX9_buildCodes_61 : decode cX9_buildCodes 61 = .ok (.getfield 42, 3) := by decide +kernel
theorem dX9_buildCodes_64 : decode cX9_buildCodes 64 = .ok (.invokevirtual 143, 3) := by decide +kernel
theorem dX9_buildCodes_67 : decode cX9_buildCodes 67 = .ok (.ifCond .eq 7, 3) := by decide +kernel
theorem dX9_buildCodes_70 : decode cX9_buildCodes 70 = .ok (.iconst 1, 1) := by decide +kernel
theorem dX9_buildCodes_71 : decode cX9_buildCodes 71 = .ok (.goto 4, 3) := by decide +kernel
theorem dX9_buildCodes_74 : decode cX9_buildCodes 74 = .ok (.iconst 0, 1) := by decide +kernel
theorem dX9_buildCodes_75 : decode cX9_buildCodes 75 = .ok (.ireturn, 1) := by decide +kernel
theorem dX9_unpackCoded_0 : decode cX9_unpackCoded 0 = .ok (.iconst 0, 1) := by decide +kernel
theorem dX9_unpackCoded_1 : decode cX9_unpackCoded 1 = .ok (.istore_n 1, 1) := by decide +kernel
theorem dX9_unpackCoded_2 : decode cX9_unpackCoded 2 = .ok (.iload_n 1, 1) := by decide +kernel
theorem dX9_unpackCoded_3 : decode cX9_unpackCoded 3 = .ok (.sipush 1100, 3) := by decide +kernel
theorem dX9_unpackCoded_6 : decode cX9_unpackCoded 6 = .ok (.if_icmp .gt 81, 3) := by decide +kernel
theorem dX9_unpackCoded_9 : decode cX9_unpackCoded 9 = .ok (.aload_n 0, 1) := by decide +kernel
theorem dX9_unpackCoded_10 : decode cX9_unpackCoded 10 = .ok (.getfield 28, 3) := by decide +kernel
theorem dX9_unpackCoded_13 : decode cX9_unpackCoded 13 = .ok (.aload_n 0, 1) := by decide +kernel
theorem dX9_unpackCoded_14 : decode cX9_unpackCoded 14 = .ok (.getfield 39, 3) := by decide +kernel
theorem dX9_unpackCoded_17 : decode cX9_unpackCoded 17 = .ok (.invokevirtual 133, 3) := by decide +kernel
theorem dX9_unpackCoded_20 : decode cX9_unpackCoded 20 = .ok (.istore_n 2, 1) := by decide +kernel
theorem dX9_unpackCoded_21 : decode cX9_unpackCoded 21 = .ok (.iload_n 2, 1) := by decide +kernel
theorem dX9_unpackCoded_22 : decode cX9_unpackCoded 22 = .ok (.sipush 256, 3) := by decide +kernel
theorem dX9_unpackCoded_25 : decode cX9_unpackCoded 25 = .ok (.if_icmp .ne 5, 3) := by decide +kernel
theorem dX9_unpackCoded_28 : decode cX9_unpackCoded 28 = .ok (.iconst 1, 1) := by decide +kernel
theorem dX9_unpackCoded_29 : decode cX9_unpackCoded 29 = .ok (.ireturn, 1) := by decide +kernel
theorem dX9_unpackCoded_30 : decode cX9_unpackCoded 30 = .ok (.iload_n 2, 1) := by decide +kernel
theorem dX9_unpackCoded_31 : decode cX9_unpackCoded 31 = .ok (.ifCond .lt 14, 3) := by decide +kernel
theorem dX9_unpackCoded_34 : decode cX9_unpackCoded 34 = .ok (.aload_n 0, 1) := by decide +kernel
theorem dX9_unpackCoded_35 : decode cX9_unpackCoded 35 = .ok (.getfield 20, 3) := by decide +kernel
theorem dX9_unpackCoded_38 : decode cX9_unpackCoded 38 = .ok (.iconst 1, 1) := by decide +kernel
theorem dX9_unpackCoded_39 : decode cX9_unpackCoded 39 = .ok (.invokevirtual 107, 3) := by decide +kernel
theorem dX9_unpackCoded_42 : decode cX9_unpackCoded 42 = .ok (.ifCond .ne 5, 3) := by decide +kernel
theorem dX9_unpackCoded_45 : decode cX9_unpackCoded 45 = .ok (.iconst 0, 1) := by decide +kernel
theorem dX9_unpackCoded_46 : decode cX9_unpackCoded 46 = .ok (.ireturn, 1) := by decide +kernel
theorem dX9_unpackCoded_47 : decode cX9_unpackCoded 47 = .ok (.iload_n 2, 1) := by decide +kernel
theorem dX9_unpackCoded_48 : decode cX9_unpackCoded 48 = .ok (.sipush 256, 3) := by decide +kernel
theorem dX9_unpackCoded_51 : decode cX9_unpackCoded 51 = .ok (.if_icmp .ge 14, 3) := by decide +kernel
theorem dX9_unpackCoded_54 : decode cX9_unpackCoded 54 = .ok (.aload_n 0, 1) := by decide +kernel
theorem dX9_unpackCoded_55 : decode cX9_unpackCoded 55 = .ok (.getfield 20, 3) := by decide +kernel
theorem dX9_unpackCoded_58 : decode cX9_unpackCoded 58 = .ok (.iload_n 2, 1) := by decide +kernel
theorem dX9_unpackCoded_59 : decode cX9_unpackCoded 59 = .ok (.invokevirtual 146, 3) := by decide +kernel
theorem dX9_unpackCoded_62 : decode cX9_unpackCoded 62 = .ok (.goto 19, 3) := by decide +kernel
theorem dX9_unpackCoded_65 : decode cX9_unpackCoded 65 = .ok (.aload_n 0, 1) := by decide +kernel
theorem dX9_unpackCoded_66 : decode cX9_unpackCoded 66 = .ok (.iload_n 2, 1) := by decide +kernel
theorem dX9_unpackCoded_67 : decode cX9_unpackCoded 67 = .ok (.sipush 256, 3) := by decide +kernel
theorem dX9_unpackCoded_70 : decode cX9_unpackCoded 70 = .ok (.isub, 1) := by decide +kernel
theorem dX9_unpackCoded_71 : decode cX9_unpackCoded 71 = .ok (.iconst 1, 1) := by decide +kernel
theorem dX9_unpackCoded_72 : decode cX9_unpackCoded 72 = .ok (.isub, 1) := by decide +kernel
theorem dX9_unpackCoded_73 : decode cX9_unpackCoded 73 = .ok (.invokevirtual 149, 3) := by decide +kernel
theorem dX9_unpackCoded_76 : decode cX9_unpackCoded 76 = .ok (.ifCond .ne 5, 3) := by decide +kernel
theorem dX9_unpackCoded_79 : decode cX9_unpackCoded 79 = .ok (.iconst 0, 1) := by decide +kernel
theorem dX9_unpackCoded_80 : decode cX9_unpackCoded 80 = .ok (.ireturn, 1) := by decide +kernel
theorem dX9_unpackCoded_81 : decode cX9_unpackCoded 81 = .ok (.iinc 1 1, 3) := by decide +kernel
theorem dX9_unpackCoded_84 : decode cX9_unpackCoded 84 = .ok (.goto (-82), 3) := by decide +kernel
theorem dX9_unpackCoded_87 : decode cX9_unpackCoded 87 = .ok (.iconst 0, 1) := by decide +kernel
theorem dX9_unpackCoded_88 : decode cX9_unpackCoded 88 = .ok (.ireturn, 1) := by decide +kernel
theorem dX9_copyMatch_0 : decode cX9_copyMatch 0 = .ok (.iload_n 1, 1) := by decide +kernel
theorem dX9_copyMatch_1 : decode cX9_copyMatch 1 = .ok (.getstatic 152, 3) := by decide +kernel
theorem dX9_copyMatch_4 : decode cX9_copyMatch 4 = .ok (.arraylength, 1) := by decide +kernel
theorem dX9_copyMatch_5 : decode cX9_copyMatch 5 = .ok (.if_icmp .lt 5, 3) := by decide +kernel
theorem dX9_copyMatch_8 : decode cX9_copyMatch 8 = .ok (.iconst 0, 1) := by decide +kernel
theorem dX9_copyMatch_9 : decode cX9_copyMatch 9 = .ok (.ireturn, 1) := by decide +kernel
theorem dX9_copyMatch_10 : decode cX9_copyMatch 10 = .ok (.aload_n 0, 1) := by decide +kernel
theorem dX9_copyMatch_11 : decode cX9_copyMatch 11 = .ok (.getfield 28, 3) := by decide +kernel
theorem dX9_copyMatch_14 : decode cX9_copyMatch 14 = .ok (.getstatic 155, 3) := by decide +kernel
theorem dX9_copyMatch_17 : decode cX9_copyMatch 17 = .ok (.iload_n 1, 1) := by decide +kernel
theorem dX9_copyMatch_18 : decode cX9_copyMatch 18 = .ok (.iaload, 1) := by decide +kernel
theorem dX9_copyMatch_19 : decode cX9_copyMatch 19 = .ok (.invokevirtual 63, 3) := by decide +kernel
theorem dX9_copyMatch_22 : decode cX9_copyMatch 22 = .ok (.istore_n 2, 1) := by decide +kernel
theorem dX9_copyMatch_23 : decode cX9_copyMatch 23 = .ok (.aload_n 0, 1) := by decide +kernel
theorem dX9_copyMatch_24 : decode cX9_copyMatch 24 = .ok (.getfield 28, 3) := by decide +kernel
theorem dX9_copyMatch_27 : decode cX9_copyMatch 27 = .ok (.aload_n 0, 1) := by decide +kernel
theorem dX9_copyMatch_28 : decode cX9_copyMatch 28 = .ok (.getfield 42, 3) := by decide +kernel
theorem dX9_copyMatch_31 : decode cX9_copyMatch 31 = .ok (.invokevirtual 133, 3) := by decide +kernel
theorem dX9_copyMatch_34 : decode cX9_copyMatch 34 = .ok (.istore_n 3, 1) := by decide +kernel
theorem dX9_copyMatch_35 : decode cX9_copyMatch 35 = .ok (.iload_n 2, 1) := by decide +kernel
theorem dX9_copyMatch_36 : decode cX9_copyMatch 36 = .ok (.ifCond .lt 15, 3) := by decide +kernel
theorem dX9_copyMatch_39 : decode cX9_copyMatch 39 = .ok (.iload_n 3, 1) := by decide +kernel
theorem dX9_copyMatch_40 : decode cX9_copyMatch 40 = .ok (.ifCond .lt 11, 3) := by decide +kernel
theorem dX9_copyMatch_43 : decode cX9_copyMatch 43 = .ok (.iload_n 3, 1) := by decide +kernel
theorem dX9_copyMatch_44 : decode cX9_copyMatch 44 = .ok (.getstatic 158, 3) := by decide +kernel
theorem dX9_copyMatch_47 : decode cX9_copyMatch 47 = .ok (.arraylength, 1) := by decide +kernel
theorem dX9_copyMatch_48 : decode cX9_copyMatch 48 = .ok (.if_icmp .lt 5, 3) := by decide +kernel
theorem dX9_copyMatch_51 : decode cX9_copyMatch 51 = .ok (.iconst 0, 1) := by decide +kernel
theorem dX9_copyMatch_52 : decode cX9_copyMatch 52 = .ok (.ireturn, 1) := by decide +kernel
theorem dX9_copyMatch_53 : decode cX9_copyMatch 53 = .ok (.aload_n 0, 1) := by decide +kernel
theorem dX9_copyMatch_54 : decode cX9_copyMatch 54 = .ok (.getfield 28, 3) := by decide +kernel
theorem dX9_copyMatch_57 : decode cX9_copyMatch 57 = .ok (.getstatic 161, 3) := by decide +kernel
theorem dX9_copyMatch_60 : decode cX9_copyMatch 60 = .ok (.iload_n 3, 1) := by decide +kernel
theorem dX9_copyMatch_61 : decode cX9_copyMatch 61 = .ok (.iaload, 1) := by decide +kernel
theorem dX9_copyMatch_62 : decode cX9_copyMatch 62 = .ok (.invokevirtual 63, 3) := by decide +kernel
theorem dX9_copyMatch_65 : decode cX9_copyMatch 65 = .ok (.istore 4, 2) := by decide +kernel
theorem dX9_copyMatch_67 : decode cX9_copyMatch 67 = .ok (.getstatic 152, 3) := by decide +kernel
theorem dX9_copyMatch_70 : decode cX9_copyMatch 70 = .ok (.iload_n 1, 1) := by decide +kernel
theorem dX9_copyMatch_71 : decode cX9_copyMatch 71 = .ok (.iaload, 1) := by decide +kernel
theorem dX9_copyMatch_72 : decode cX9_copyMatch 72 = .ok (.iload_n 2, 1) := by decide +kernel
theorem dX9_copyMatch_73 : decode cX9_copyMatch 73 = .ok (.iadd, 1) := by decide +kernel
theorem dX9_copyMatch_74 : decode cX9_copyMatch 74 = .ok (.istore 5, 2) := by decide +kernel
theorem dX9_copyMatch_76 : decode cX9_copyMatch 76 = .ok (.getstatic 158, 3) := by decide +kernel
theorem dX9_copyMatch_79 : decode cX9_copyMatch 79 = .ok (.iload_n 3, 1) := by decide +kernel
theorem dX9_copyMatch_80 : decode cX9_copyMatch 80 = .ok (.iaload, 1) := by decide +kernel
theorem dX9_copyMatch_81 : decode cX9_copyMatch 81 = .ok (.iload 4, 2) := by decide +kernel
theorem dX9_copyMatch_83 : decode cX9_copyMatch 83 = .ok (.iadd, 1) := by decide +kernel
theorem dX9_copyMatch_84 : decode cX9_copyMatch 84 = .ok (.istore 6, 2) := by decide +kernel
theorem dX9_copyMatch_86 : decode cX9_copyMatch 86 = .ok (.iload 4, 2) := by decide +kernel
theorem dX9_copyMatch_88 : decode cX9_copyMatch 88 = .ok (.ifCond .lt 27, 3) := by decide +kernel
theorem dX9_copyMatch_91 : decode cX9_copyMatch 91 = .ok (.iload 6, 2) := by decide +kernel
theorem dX9_copyMatch_93 : decode cX9_copyMatch 93 = .ok (.aload_n 0, 1) := by decide +kernel
theorem dX9_copyMatch_94 : decode cX9_copyMatch 94 = .ok (.getfield 20, 3) := by decide +kernel
theorem dX9_copyMatch_97 : decode cX9_copyMatch 97 = .ok (.getfield 60, 3) := by decide +kernel
theorem dX9_copyMatch_100 : decode cX9_copyMatch 100 = .ok (.if_icmp .gt 15, 3) := by decide +kernel
theorem dX9_copyMatch_103 : decode cX9_copyMatch 103 = .ok (.aload_n 0, 1) := by decide +kernel
theorem dX9_copyMatch_104 : decode cX9_copyMatch 104 = .ok (.getfield 20, 3) := by decide +kernel
theorem dX9_copyMatch_107 : decode cX9_copyMatch 107 = .ok (.iload 5, 2) := by decide +kernel
theorem dX9_copyMatch_109 : decode cX9_copyMatch 109 = .ok (.invokevirtual 107, 3) := by decide +kernel
theorem dX9_copyMatch_112 : decode cX9_copyMatch 112 = .ok (.ifCond .ne 5, 3) := by decide +kernel
theorem dX9_copyMatch_115 : decode cX9_copyMatch 115 = .ok (.iconst 0, 1) := by decide +kernel
theorem dX9_copyMatch_116 : decode cX9_copyMatch 116 = .ok (.ireturn, 1) := by decide +kernel
theorem dX9_copyMatch_117 : decode cX9_copyMatch 117 = .ok (.iconst 0, 1) := by decide +kernel
theorem dX9_copyMatch_118 : decode cX9_copyMatch 118 = .ok (.istore 7, 2) := by decide +kernel
theorem dX9_copyMatch_120 : decode cX9_copyMatch 120 = .ok (.iload 7, 2) := by decide +kernel
theorem dX9_copyMatch_122 : decode cX9_copyMatch 122 = .ok (.iload 5, 2) := by decide +kernel
theorem dX9_copyMatch_124 : decode cX9_copyMatch 124 = .ok (.if_icmp .ge 33, 3) := by decide +kernel
theorem dX9_copyMatch_127 : decode cX9_copyMatch 127 = .ok (.aload_n 0, 1) := by decide +kernel
theorem dX9_copyMatch_128 : decode cX9_copyMatch 128 = .ok (.getfield 20, 3) := by decide +kernel
theorem dX9_copyMatch_131 : decode cX9_copyMatch 131 = .ok (.aload_n 0, 1) := by decide +kernel
theorem dX9_copyMatch_132 : decode cX9_copyMatch 132 = .ok (.getfield 20, 3) := by decide +kernel
theorem dX9_copyMatch_135 : decode cX9_copyMatch 135 = .ok (.aload_n 0, 1) := by decide +kernel
theorem dX9_copyMatch_136 : decode cX9_copyMatch 136 = .ok (.getfield 20, 3) := by decide +kernel
theorem dX9_copyMatch_139 : decode cX9_copyMatch 139 = .ok (.getfield 60, 3) := by decide +kernel
theorem dX9_copyMatch_142 : decode cX9_copyMatch 142 = .ok (.iload 6, 2) := by decide +kernel
theorem dX9_copyMatch_144 : decode cX9_copyMatch 144 = .ok (.isub, 1) := by decide +kernel
theorem dX9_copyMatch_145 : decode cX9_copyMatch 145 = .ok (.invokevirtual 80, 3) := by decide +kernel
theorem dX9_copyMatch_148 : decode cX9_copyMatch 148 = .ok (.invokevirtual 146, 3) := by decide +kernel
theorem dX9_copyMatch_151 : decode cX9_copyMatch 151 = .ok (.iinc 7 1, 3) := by decide +kernel
theorem dX9_copyMatch_154 : decode cX9_copyMatch 154 = .ok (.goto (-34), 3) := by decide +kernel
theorem dX9_copyMatch_157 : decode cX9_copyMatch 157 = .ok (.iconst 1, 1) := by decide +kernel
theorem dX9_copyMatch_158 : decode cX9_copyMatch 158 = .ok (.ireturn, 1) := by decide +kernel
theorem dX10_init_0 : decode cX10_init 0 = .ok (.aload_n 0, 1) := by decide +kernel
theorem dX10_init_1 : decode cX10_init 1 = .ok (.invokespecial 3, 3) := by decide +kernel
theorem dX10_init_4 : decode cX10_init 4 = .ok (.aload_n 0, 1) := by decide +kernel
theorem dX10_init_5 : decode cX10_init 5 = .ok (.new 9, 3) := by decide +kernel
theorem dX10_init_8 : decode cX10_init 8 = .ok (.dup, 1) := by decide +kernel
theorem dX10_init_9 : decode cX10_init 9 = .ok (.sipush 9968, 3) := by decide +kernel
theorem dX10_init_12 : decode cX10_init 12 = .ok (.invokespecial 11, 3) := by decide +kernel
theorem dX10_init_15 : decode cX10_init 15 = .ok (.putfield 14, 3) := by decide +kernel
theorem dX10_init_18 : decode cX10_init 18 = .ok (.aload_n 0, 1) := by decide +kernel
theorem dX10_init_19 : decode cX10_init 19 = .ok (.aload_n 1, 1) := by decide +kernel
theorem dX10_init_20 : decode cX10_init 20 = .ok (.putfield 20, 3) := by decide +kernel
theorem dX10_init_23 : decode cX10_init 23 = .ok (.return_, 1) := by decide +kernel
theorem dX10_run_0 : decode cX10_run 0 = .ok (.aload_n 0, 1) := by decide +kernel
theorem dX10_run_1 : decode cX10_run 1 = .ok (.getfield 14, 3) := by decide +kernel
theorem dX10_run_4 : decode cX10_run 4 = .ok (.invokevirtual 24, 3) := by decide +kernel
theorem dX10_run_7 : decode cX10_run 7 = .ok (.aload_n 0, 1) := by decide +kernel
theorem dX10_run_8 : decode cX10_run 8 = .ok (.iconst 0, 1) := by decide +kernel
theorem dX10_run_9 : decode cX10_run 9 = .ok (.putfield 27, 3) := by decide +kernel
theorem dX10_run_12 : decode cX10_run 12 = .ok (.aload_n 0, 1) := by decide +kernel
theorem dX10_run_13 : decode cX10_run 13 = .ok (.getfield 14, 3) := by decide +kernel
theorem dX10_run_16 : decode cX10_run 16 = .ok (.ldc 31, 2) := by decide +kernel
theorem dX10_run_18 : decode cX10_run 18 = .ok (.invokevirtual 32, 3) := by decide +kernel
theorem dX10_run_21 : decode cX10_run 21 = .ok (.aload_n 0, 1) := by decide +kernel
theorem dX10_run_22 : decode cX10_run 22 = .ok (.getfield 14, 3) := by decide +kernel
theorem dX10_run_25 : decode cX10_run 25 = .ok (.ldc 35, 2) := by decide +kernel
theorem dX10_run_27 : decode cX10_run 27 = .ok (.invokevirtual 32, 3) := by decide +kernel
theorem dX10_run_30 : decode cX10_run 30 = .ok (.aload_n 0, 1) := by decide +kernel
theorem dX10_run_31 : decode cX10_run 31 = .ok (.aload_n 1, 1) := by decide +kernel
theorem dX10_run_32 : decode cX10_run 32 = .ok (.invokevirtual 36, 3) := by decide +kernel
theorem dX10_run_35 : decode cX10_run 35 = .ok (.aload_n 0, 1) := by decide +kernel
theorem dX10_run_36 : decode cX10_run 36 = .ok (.bipush 8, 2) := by decide +kernel
theorem dX10_run_38 : decode cX10_run 38 = .ok (.ldc 40, 2) := by decide +kernel
theorem dX10_run_40 : decode cX10_run 40 = .ok (.invokevirtual 41, 3) := by decide +kernel
theorem dX10_run_43 : decode cX10_run 43 = .ok (.aload_n 0, 1) := by decide +kernel
theorem dX10_run_44 : decode cX10_run 44 = .ok (.getfield 14, 3) := by decide +kernel
theorem dX10_run_47 : decode cX10_run 47 = .ok (.aload_n 1, 1) := by decide +kernel
theorem dX10_run_48 : decode cX10_run 48 = .ok (.getfield 45, 3) := by decide +kernel
theorem dX10_run_51 : decode cX10_run 51 = .ok (.invokevirtual 32, 3) := by decide +kernel
theorem dX10_run_54 : decode cX10_run 54 = .ok (.aload_n 0, 1) := by decide +kernel
theorem dX10_run_55 : decode cX10_run 55 = .ok (.getfield 14, 3) := by decide +kernel
theorem dX10_run_58 : decode cX10_run 58 = .ok (.aload_n 1, 1) := by decide +kernel
theorem dX10_run_59 : decode cX10_run 59 = .ok (.getfield 50, 3) := by decide +kernel
theorem dX10_run_62 : decode cX10_run 62 = .ok (.invokevirtual 32, 3) := by decide +kernel
theorem dX10_run_65 : decode cX10_run 65 = .ok (.aload_n 0, 1) := by decide +kernel
theorem dX10_run_66 : decode cX10_run 66 = .ok (.invokevirtual 53, 3) := by decide +kernel
theorem dX10_run_69 : decode cX10_run 69 = .ok (.aload_n 1, 1) := by decide +kernel
theorem dX10_run_70 : decode cX10_run 70 = .ok (.getfield 56, 3) := by decide +kernel
theorem dX10_run_73 : decode cX10_run 73 = .ok (.ifCond .eq 13, 3) := by decide +kernel
theorem dX10_run_76 : decode cX10_run 76 = .ok (.aload_n 0, 1) := by decide +kernel
theorem dX10_run_77 : decode cX10_run 77 = .ok (.aload_n 1, 1) := by decide +kernel
theorem dX10_run_78 : decode cX10_run 78 = .ok (.getfield 60, 3) := by decide +kernel
theorem dX10_run_81 : decode cX10_run 81 = .ok (.iconst 0, 1) := by decide +kernel
theorem dX10_run_82 : decode cX10_run 82 = .ok (.aaload, 1) := by decide +kernel
theorem dX10_run_83 : decode cX10_run 83 = .ok (.invokevirtual 64, 3) := by decide +kernel
theorem dX10_run_86 : decode cX10_run 86 = .ok (.aload_n 0, 1) := by decide +kernel
theorem dX10_run_87 : decode cX10_run 87 = .ok (.aload_n 1, 1) := by decide +kernel
theorem dX10_run_88 : decode cX10_run 88 = .ok (.invokevirtual 68, 3) := by decide +kernel
theorem dX10_run_91 : decode cX10_run 91 = .ok (.invokevirtual 72, 3) := by decide +kernel
theorem dX10_run_94 : decode cX10_run 94 = .ok (.aload_n 1, 1) := by decide +kernel
theorem dX10_run_95 : decode cX10_run 95 = .ok (.getfield 56, 3) := by decide +kernel
theorem dX10_run_98 : decode cX10_run 98 = .ok (.ifCond .eq 7, 3) := by decide +kernel
theorem dX10_run_101 : decode cX10_run 101 = .ok (.iconst 1, 1) := by decide +kernel
theorem dX10_run_102 : decode cX10_run 102 = .ok (.goto 4, 3) := by decide +kernel
theorem dX10_run_105 : decode cX10_run 105 = .ok (.iconst 0, 1) := by decide +kernel
theorem dX10_run_106 : decode cX10_run 106 = .ok (.istore_n 2, 1) := by decide +kernel
theorem dX10_run_107 : decode cX10_run 107 = .ok (.iload_n 2, 1) := by decide +kernel
theorem dX10_run_108 : decode cX10_run 108 = .ok (.aload_n 1, 1) := by decide +kernel
theorem dX10_run_109 : decode cX10_run 109 = .ok (.getfield 45, 3) := by decide +kernel
theorem dX10_run_112 : decode cX10_run 112 = .ok (.if_icmp .ge 35, 3) := by decide +kernel
theorem dX10_run_115 : decode cX10_run 115 = .ok (.iload_n 2, 1) := by decide +kernel
theorem dX10_run_116 : decode cX10_run 116 = .ok (.bipush 8, 2) := by decide +kernel
theorem dX10_run_118 : decode cX10_run 118 = .ok (.if_icmp .ge 29, 3) := by decide +kernel
theorem dX10_run_121 : decode cX10_run 121 = .ok (.aload_n 0, 1) := by decide +kernel
theorem dX10_run_122 : decode cX10_run 122 = .ok (.aload_n 1, 1) := by decide +kernel
theorem dX10_run_123 : decode cX10_run 123 = .ok (.getfield 60, 3) := by decide +kernel
theorem dX10_run_126 : decode cX10_run 126 = .ok (.iload_n 2, 1) := by decide +kernel
theorem dX10_run_127 : decode cX10_run 127 = .ok (.aaload, 1) := by decide +kernel
theorem dX10_run_128 : decode cX10_run 128 = .ok (.invokevirtual 64, 3) := by decide +kernel
theorem dX10_run_131 : decode cX10_run 131 = .ok (.aload_n 0, 1) := by decide +kernel
theorem dX10_run_132 : decode cX10_run 132 = .ok (.aload_n 1, 1) := by decide +kernel
theorem dX10_run_133 : decode cX10_run 133 = .ok (.getfield 60, 3) := by decide +kernel
theorem dX10_run_136 : decode cX10_run 136 = .ok (.iload_n 2, 1) := by decide +kernel
theorem dX10_run_137 : decode cX10_run 137 = .ok (.aaload, 1) := by decide +kernel
theorem dX10_run_138 : decode cX10_run 138 = .ok (.invokevirtual 75, 3) := by decide +kernel
theorem dX10_run_141 : decode cX10_run 141 = .ok (.iinc 2 1, 3) := by decide +kernel
theorem dX10_run_144 : decode cX10_run 144 = .ok (.goto (-37), 3) := by decide +kernel
theorem dX10_run_147 : decode cX10_run 147 = .ok (.aload_n 0, 1) := by decide +kernel
theorem dX10_run_148 : decode cX10_run 148 = .ok (.iconst 0, 1) := by decide +kernel
theorem dX10_run_149 : decode cX10_run 149 = .ok (.ldc 78, 2) := by decide +kernel
theorem dX10_run_151 : decode cX10_run 151 = .ok (.invokevirtual 41, 3) := by decide +kernel
theorem dX10_run_154 : decode cX10_run 154 = .ok (.aload_n 0, 1) := by decide +kernel
theorem dX10_run_155 : decode cX10_run 155 = .ok (.invokevirtual 53, 3) := by decide +kernel
theorem dX10_run_158 : decode cX10_run 158 = .ok (.return_, 1) := by decide +kernel
theorem dX10_openChunk_0 : decode cX10_openChunk 0 = .ok (.aload_n 0, 1) := by decide +kernel
theorem dX10_openChunk_1 : decode cX10_openChunk 1 = .ok (.getfield 14, 3) := by decide +kernel
theorem dX10_openChunk_4 : decode cX10_openChunk 4 = .ok (.iload_n 1, 1) := by decide +kernel
theorem dX10_openChunk_5 : decode cX10_openChunk 5 = .ok (.invokevirtual 32, 3) := by decide +kernel
theorem dX10_openChunk_8 : decode cX10_openChunk 8 = .ok (.aload_n 0, 1) := by decide +kernel
theorem dX10_openChunk_9 : decode cX10_openChunk 9 = .ok (.aload_n 0, 1) := by decide +kernel
theorem dX10_openChunk_10 : decode cX10_openChunk 10 = .ok (.getfield 14, 3) := by decide +kernel
theorem dX10_openChunk_13 : decode cX10_openChunk 13 = .ok (.getfield 79, 3) := by decide +kernel
theorem dX10_openChunk_16 : decode cX10_openChunk 16 = .ok (.putfield 82, 3) := by decide +kernel
theorem dX10_openChunk_19 : decode cX10_openChunk 19 = .ok (.aload_n 0, 1) := by decide +kernel
theorem dX10_openChunk_20 : decode cX10_openChunk 20 = .ok (.getfield 14, 3) := by decide +kernel
theorem dX10_openChunk_23 : decode cX10_openChunk 23 = .ok (.iload_n 2, 1) := by decide +kernel
theorem dX10_openChunk_24 : decode cX10_openChunk 24 = .ok (.invokevirtual 32, 3) := by decide +kernel
theorem dX10_openChunk_27 : decode cX10_openChunk 27 = .ok (.return_, 1) := by decide +kernel
theorem dX10_closeChunk_0 : decode cX10_closeChunk 0 = .ok (.aload_n 0, 1) := by decide +kernel
theorem dX10_closeChunk_1 : decode cX10_closeChunk 1 = .ok (.getfield 14, 3) := by decide +kernel
