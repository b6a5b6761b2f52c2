theorem dX4_takesControl_9 : decode cX4_takesControl 9 = .ok (.aload_n 0, 1) := by decide +kernel
theorem dX4_takesControl_10 : decode cX4_takesControl 10 = .ok (.getfield 21, 3) := by decide +kernel
theorem dX4_takesControl_13 : decode cX4_takesControl 13 = .ok (.getfield 124, 3) := by decide +kernel
theorem dX4_takesControl_16 : decode cX4_takesControl 16 = .ok (.aload_n 0, 1) := by decide +kernel
theorem dX4_takesControl_17 : decode cX4_takesControl 17 = .ok (.getfield 47, 3) := by decide +kernel
theorem dX4_takesControl_20 : decode cX4_takesControl 20 = .ok (.if_icmp .ge 11, 3) := by decide +kernel
theorem dX4_takesControl_23 : decode cX4_takesControl 23 = .ok (.aload_n 0, 1) := by decide +kernel
theorem dX4_takesControl_24 : decode cX4_takesControl 24 = .ok (.iload_n 1, 1) := by decide +kernel
theorem dX4_takesControl_25 : decode cX4_takesControl 25 = .ok (.invokevirtual 137, 3) := by decide +kernel
theorem dX4_takesControl_28 : decode cX4_takesControl 28 = .ok (.ifCond .ne 5, 3) := by decide +kernel
theorem dX4_takesControl_31 : decode cX4_takesControl 31 = .ok (.iconst 0, 1) := by decide +kernel
theorem dX4_takesControl_32 : decode cX4_takesControl 32 = .ok (.ireturn, 1) := by decide +kernel
theorem dX4_takesControl_33 : decode cX4_takesControl 33 = .ok (.aload_n 0, 1) := by decide +kernel
theorem dX4_takesControl_34 : decode cX4_takesControl 34 = .ok (.getfield 32, 3) := by decide +kernel
theorem dX4_takesControl_37 : decode cX4_takesControl 37 = .ok (.iload_n 1, 1) := by decide +kernel
theorem dX4_takesControl_38 : decode cX4_takesControl 38 = .ok (.iconst 4, 1) := by decide +kernel
theorem dX4_takesControl_39 : decode cX4_takesControl 39 = .ok (.iadd, 1) := by decide +kernel
theorem dX4_takesControl_40 : decode cX4_takesControl 40 = .ok (.invokevirtual 79, 3) := by decide +kernel
theorem dX4_takesControl_43 : decode cX4_takesControl 43 = .ok (.istore_n 2, 1) := by decide +kernel
theorem dX4_takesControl_44 : decode cX4_takesControl 44 = .ok (.aload_n 0, 1) := by decide +kernel
theorem dX4_takesControl_45 : decode cX4_takesControl 45 = .ok (.getfield 32, 3) := by decide +kernel
theorem dX4_takesControl_48 : decode cX4_takesControl 48 = .ok (.iload_n 1, 1) := by decide +kernel
theorem dX4_takesControl_49 : decode cX4_takesControl 49 = .ok (.bipush 8, 2) := by decide +kernel
theorem dX4_takesControl_51 : decode cX4_takesControl 51 = .ok (.iadd, 1) := by decide +kernel
theorem dX4_takesControl_52 : decode cX4_takesControl 52 = .ok (.invokevirtual 79, 3) := by decide +kernel
theorem dX4_takesControl_55 : decode cX4_takesControl 55 = .ok (.istore_n 3, 1) := by decide +kernel
theorem dX4_takesControl_56 : decode cX4_takesControl 56 = .ok (.aload_n 0, 1) := by decide +kernel
theorem dX4_takesControl_57 : decode cX4_takesControl 57 = .ok (.getfield 32, 3) := by decide +kernel
theorem dX4_takesControl_60 : decode cX4_takesControl 60 = .ok (.iload_n 1, 1) := by decide +kernel
theorem dX4_takesControl_61 : decode cX4_takesControl 61 = .ok (.bipush 12, 2) := by decide +kernel
theorem dX4_takesControl_63 : decode cX4_takesControl 63 = .ok (.iadd, 1) := by decide +kernel
theorem dX4_takesControl_64 : decode cX4_takesControl 64 = .ok (.invokevirtual 79, 3) := by decide +kernel
theorem dX4_takesControl_67 : decode cX4_takesControl 67 = .ok (.istore 4, 2) := by decide +kernel
theorem dX4_takesControl_69 : decode cX4_takesControl 69 = .ok (.aload_n 0, 1) := by decide +kernel
theorem dX4_takesControl_70 : decode cX4_takesControl 70 = .ok (.getfield 32, 3) := by decide +kernel
theorem dX4_takesControl_73 : decode cX4_takesControl 73 = .ok (.iload_n 1, 1) := by decide +kernel
theorem dX4_takesControl_74 : decode cX4_takesControl 74 = .ok (.bipush 16, 2) := by decide +kernel
theorem dX4_takesControl_76 : decode cX4_takesControl 76 = .ok (.iadd, 1) := by decide +kernel
theorem dX4_takesControl_77 : decode cX4_takesControl 77 = .ok (.invokevirtual 79, 3) := by decide +kernel
theorem dX4_takesControl_80 : decode cX4_takesControl 80 = .ok (.istore 5, 2) := by decide +kernel
theorem dX4_takesControl_82 : decode cX4_takesControl 82 = .ok (.aload_n 0, 1) := by decide +kernel
theorem dX4_takesControl_83 : decode cX4_takesControl 83 = .ok (.getfield 32, 3) := by decide +kernel
theorem dX4_takesControl_86 : decode cX4_takesControl 86 = .ok (.iload_n 1, 1) := by decide +kernel
theorem dX4_takesControl_87 : decode cX4_takesControl 87 = .ok (.bipush 24, 2) := by decide +kernel
theorem dX4_takesControl_89 : decode cX4_takesControl 89 = .ok (.iadd, 1) := by decide +kernel
theorem dX4_takesControl_90 : decode cX4_takesControl 90 = .ok (.invokevirtual 76, 3) := by decide +kernel
theorem dX4_takesControl_93 : decode cX4_takesControl 93 = .ok (.istore 6, 2) := by decide +kernel
theorem dX4_takesControl_95 : decode cX4_takesControl 95 = .ok (.aload_n 0, 1) := by decide +kernel
theorem dX4_takesControl_96 : decode cX4_takesControl 96 = .ok (.getfield 32, 3) := by decide +kernel
theorem dX4_takesControl_99 : decode cX4_takesControl 99 = .ok (.iload_n 1, 1) := by decide +kernel
theorem dX4_takesControl_100 : decode cX4_takesControl 100 = .ok (.bipush 25, 2) := by decide +kernel
theorem dX4_takesControl_102 : decode cX4_takesControl 102 = .ok (.iadd, 1) := by decide +kernel
theorem dX4_takesControl_103 : decode cX4_takesControl 103 = .ok (.invokevirtual 76, 3) := by decide +kernel
theorem dX4_takesControl_106 : decode cX4_takesControl 106 = .ok (.istore 7, 2) := by decide +kernel
theorem dX4_takesControl_108 : decode cX4_takesControl 108 = .ok (.aload_n 0, 1) := by decide +kernel
theorem dX4_takesControl_109 : decode cX4_takesControl 109 = .ok (.getfield 21, 3) := by decide +kernel
theorem dX4_takesControl_112 : decode cX4_takesControl 112 = .ok (.iload_n 2, 1) := by decide +kernel
theorem dX4_takesControl_113 : decode cX4_takesControl 113 = .ok (.iload_n 3, 1) := by decide +kernel
theorem dX4_takesControl_114 : decode cX4_takesControl 114 = .ok (.iload 4, 2) := by decide +kernel
theorem dX4_takesControl_116 : decode cX4_takesControl 116 = .ok (.iload 5, 2) := by decide +kernel
theorem dX4_takesControl_118 : decode cX4_takesControl 118 = .ok (.iload 6, 2) := by decide +kernel
theorem dX4_takesControl_120 : decode cX4_takesControl 120 = .ok (.iload 7, 2) := by decide +kernel
theorem dX4_takesControl_122 : decode cX4_takesControl 122 = .ok (.invokevirtual 140, 3) := by decide +kernel
theorem dX4_takesControl_125 : decode cX4_takesControl 125 = .ok (.ifCond .ne 5, 3) := by decide +kernel
theorem dX4_takesControl_128 : decode cX4_takesControl 128 = .ok (.iconst 0, 1) := by decide +kernel
theorem dX4_takesControl_129 : decode cX4_takesControl 129 = .ok (.ireturn, 1) := by decide +kernel
theorem dX4_takesControl_130 : decode cX4_takesControl 130 = .ok (.aload_n 0, 1) := by decide +kernel
theorem dX4_takesControl_131 : decode cX4_takesControl 131 = .ok (.getfield 21, 3) := by decide +kernel
theorem dX4_takesControl_134 : decode cX4_takesControl 134 = .ok (.iload_n 2, 1) := by decide +kernel
theorem dX4_takesControl_135 : decode cX4_takesControl 135 = .ok (.iload_n 3, 1) := by decide +kernel
theorem dX4_takesControl_136 : decode cX4_takesControl 136 = .ok (.iload 4, 2) := by decide +kernel
theorem dX4_takesControl_138 : decode cX4_takesControl 138 = .ok (.iload 5, 2) := by decide +kernel
theorem dX4_takesControl_140 : decode cX4_takesControl 140 = .ok (.iload 6, 2) := by decide +kernel
theorem dX4_takesControl_142 : decode cX4_takesControl 142 = .ok (.iload 7, 2) := by decide +kernel
theorem dX4_takesControl_144 : decode cX4_takesControl 144 = .ok (.invokevirtual 144, 3) := by decide +kernel
theorem dX4_takesControl_147 : decode cX4_takesControl 147 = .ok (.aload_n 0, 1) := by decide +kernel
theorem dX4_takesControl_148 : decode cX4_takesControl 148 = .ok (.getfield 50, 3) := by decide +kernel
theorem dX4_takesControl_151 : decode cX4_takesControl 151 = .ok (.ifCond .ne 19, 3) := by decide +kernel
theorem dX4_takesControl_154 : decode cX4_takesControl 154 = .ok (.aload_n 0, 1) := by decide +kernel
theorem dX4_takesControl_155 : decode cX4_takesControl 155 = .ok (.getfield 21, 3) := by decide +kernel
theorem dX4_takesControl_158 : decode cX4_takesControl 158 = .ok (.iconst 1, 1) := by decide +kernel
theorem dX4_takesControl_159 : decode cX4_takesControl 159 = .ok (.putfield 148, 3) := by decide +kernel
theorem dX4_takesControl_162 : decode cX4_takesControl 162 = .ok (.aload_n 0, 1) := by decide +kernel
theorem dX4_takesControl_163 : decode cX4_takesControl 163 = .ok (.getfield 21, 3) := by decide +kernel
theorem dX4_takesControl_166 : decode cX4_takesControl 166 = .ok (.invokevirtual 151, 3) := by decide +kernel
theorem dX4_takesControl_169 : decode cX4_takesControl 169 = .ok (.ireturn, 1) := by decide +kernel
theorem dX4_takesControl_170 : decode cX4_takesControl 170 = .ok (.iconst 1, 1) := by decide +kernel
theorem dX4_takesControl_171 : decode cX4_takesControl 171 = .ok (.ireturn, 1) := by decide +kernel
theorem dX4_takesSerial_0 : decode cX4_takesSerial 0 = .ok (.aload_n 0, 1) := by decide +kernel
theorem dX4_takesSerial_1 : decode cX4_takesSerial 1 = .ok (.getfield 32, 3) := by decide +kernel
theorem dX4_takesSerial_4 : decode cX4_takesSerial 4 = .ok (.iload_n 1, 1) := by decide +kernel
theorem dX4_takesSerial_5 : decode cX4_takesSerial 5 = .ok (.invokevirtual 79, 3) := by decide +kernel
theorem dX4_takesSerial_8 : decode cX4_takesSerial 8 = .ok (.aload_n 0, 1) := by decide +kernel
theorem dX4_takesSerial_9 : decode cX4_takesSerial 9 = .ok (.getfield 44, 3) := by decide +kernel
theorem dX4_takesSerial_12 : decode cX4_takesSerial 12 = .ok (.if_icmp .ne 7, 3) := by decide +kernel
theorem dX4_takesSerial_15 : decode cX4_takesSerial 15 = .ok (.iconst 1, 1) := by decide +kernel
theorem dX4_takesSerial_16 : decode cX4_takesSerial 16 = .ok (.goto 4, 3) := by decide +kernel
theorem dX4_takesSerial_19 : decode cX4_takesSerial 19 = .ok (.iconst 0, 1) := by decide +kernel
theorem dX4_takesSerial_20 : decode cX4_takesSerial 20 = .ok (.istore_n 2, 1) := by decide +kernel
theorem dX4_takesSerial_21 : decode cX4_takesSerial 21 = .ok (.aload_n 0, 1) := by decide +kernel
theorem dX4_takesSerial_22 : decode cX4_takesSerial 22 = .ok (.dup, 1) := by decide +kernel
theorem dX4_takesSerial_23 : decode cX4_takesSerial 23 = .ok (.getfield 44, 3) := by decide +kernel
theorem dX4_takesSerial_26 : decode cX4_takesSerial 26 = .ok (.iconst 1, 1) := by decide +kernel
theorem dX4_takesSerial_27 : decode cX4_takesSerial 27 = .ok (.iadd, 1) := by decide +kernel
theorem dX4_takesSerial_28 : decode cX4_takesSerial 28 = .ok (.putfield 44, 3) := by decide +kernel
theorem dX4_takesSerial_31 : decode cX4_takesSerial 31 = .ok (.iload_n 2, 1) := by decide +kernel
theorem dX4_takesSerial_32 : decode cX4_takesSerial 32 = .ok (.ireturn, 1) := by decide +kernel
theorem dX4_takesDefaultData_0 : decode cX4_takesDefaultData 0 = .ok (.aload_n 0, 1) := by decide +kernel
theorem dX4_takesDefaultData_1 : decode cX4_takesDefaultData 1 = .ok (.getfield 47, 3) := by decide +kernel
theorem dX4_takesDefaultData_4 : decode cX4_takesDefaultData 4 = .ok (.ifCond .eq 19, 3) := by decide +kernel
theorem dX4_takesDefaultData_7 : decode cX4_takesDefaultData 7 = .ok (.aload_n 0, 1) := by decide +kernel
theorem dX4_takesDefaultData_8 : decode cX4_takesDefaultData 8 = .ok (.getfield 50, 3) := by decide +kernel
theorem dX4_takesDefaultData_11 : decode cX4_takesDefaultData 11 = .ok (.ifCond .eq 14, 3) := by decide +kernel
theorem dX4_takesDefaultData_14 : decode cX4_takesDefaultData 14 = .ok (.aload_n 0, 1) := by decide +kernel
theorem dX4_takesDefaultData_15 : decode cX4_takesDefaultData 15 = .ok (.getfield 40, 3) := by decide +kernel
theorem dX4_takesDefaultData_18 : decode cX4_takesDefaultData 18 = .ok (.ldc 88, 2) := by decide +kernel
theorem dX4_takesDefaultData_20 : decode cX4_takesDefaultData 20 = .ok (.if_icmp .eq 5, 3) := by decide +kernel
theorem dX4_takesDefaultData_23 : decode cX4_takesDefaultData 23 = .ok (.iconst 0, 1) := by decide +kernel
theorem dX4_takesDefaultData_24 : decode cX4_takesDefaultData 24 = .ok (.ireturn, 1) := by decide +kernel
theorem dX4_takesDefaultData_25 : decode cX4_takesDefaultData 25 = .ok (.aload_n 0, 1) := by decide +kernel
theorem dX4_takesDefaultData_26 : decode cX4_takesDefaultData 26 = .ok (.getfield 50, 3) := by decide +kernel
theorem dX4_takesDefaultData_29 : decode cX4_takesDefaultData 29 = .ok (.ifCond .ne 29, 3) := by decide +kernel
theorem dX4_takesDefaultData_32 : decode cX4_takesDefaultData 32 = .ok (.aload_n 0, 1) := by decide +kernel
theorem dX4_takesDefaultData_33 : decode cX4_takesDefaultData 33 = .ok (.iconst 1, 1) := by decide +kernel
theorem dX4_takesDefaultData_34 : decode cX4_takesDefaultData 34 = .ok (.putfield 50, 3) := by decide +kernel
theorem dX4_takesDefaultData_37 : decode cX4_takesDefaultData 37 = .ok (.aload_n 0, 1) := by decide +kernel
theorem dX4_takesDefaultData_38 : decode cX4_takesDefaultData 38 = .ok (.aload_n 0, 1) := by decide +kernel
theorem dX4_takesDefaultData_39 : decode cX4_takesDefaultData 39 = .ok (.getfield 21, 3) := by decide +kernel
theorem dX4_takesDefaultData_42 : decode cX4_takesDefaultData 42 = .ok (.invokevirtual 154, 3) := by decide +kernel
theorem dX4_takesDefaultData_45 : decode cX4_takesDefaultData 45 = .ok (.putfield 29, 3) := by decide +kernel
theorem dX4_takesDefaultData_48 : decode cX4_takesDefaultData 48 = .ok (.aload_n 0, 1) := by decide +kernel
theorem dX4_takesDefaultData_49 : decode cX4_takesDefaultData 49 = .ok (.getfield 12, 3) := by decide +kernel
theorem dX4_takesDefaultData_52 : decode cX4_takesDefaultData 52 = .ok (.getfield 158, 3) := by decide +kernel
theorem dX4_takesDefaultData_55 : decode cX4_takesDefaultData 55 = .ok (.invokevirtual 161, 3) := by decide +kernel
theorem dX4_takesDefaultData_58 : decode cX4_takesDefaultData 58 = .ok (.aload_n 0, 1) := by decide +kernel
theorem dX4_takesDefaultData_59 : decode cX4_takesDefaultData 59 = .ok (.getfield 12, 3) := by decide +kernel
theorem dX4_takesDefaultData_62 : decode cX4_takesDefaultData 62 = .ok (.getfield 158, 3) := by decide +kernel
theorem dX4_takesDefaultData_65 : decode cX4_takesDefaultData 65 = .ok (.aload_n 0, 1) := by decide +kernel
theorem dX4_takesDefaultData_66 : decode cX4_takesDefaultData 66 = .ok (.getfield 32, 3) := by decide +kernel
theorem dX4_takesDefaultData_69 : decode cX4_takesDefaultData 69 = .ok (.aload_n 0, 1) := by decide +kernel
theorem dX4_takesDefaultData_70 : decode cX4_takesDefaultData 70 = .ok (.getfield 58, 3) := by decide +kernel
theorem dX4_takesDefaultData_73 : decode cX4_takesDefaultData 73 = .ok (.bipush 8, 2) := by decide +kernel
theorem dX4_takesDefaultData_75 : decode cX4_takesDefaultData 75 = .ok (.iadd, 1) := by decide +kernel
theorem dX4_takesDefaultData_76 : decode cX4_takesDefaultData 76 = .ok (.aload_n 0, 1) := by decide +kernel
theorem dX4_takesDefaultData_77 : decode cX4_takesDefaultData 77 = .ok (.getfield 58, 3) := by decide +kernel
theorem dX4_takesDefaultData_80 : decode cX4_takesDefaultData 80 = .ok (.bipush 8, 2) := by decide +kernel
theorem dX4_takesDefaultData_82 : decode cX4_takesDefaultData 82 = .ok (.iadd, 1) := by decide +kernel
theorem dX4_takesDefaultData_83 : decode cX4_takesDefaultData 83 = .ok (.iload_n 1, 1) := by decide +kernel
theorem dX4_takesDefaultData_84 : decode cX4_takesDefaultData 84 = .ok (.iadd, 1) := by decide +kernel
theorem dX4_takesDefaultData_85 : decode cX4_takesDefaultData 85 = .ok (.invokevirtual 164, 3) := by decide +kernel
theorem dX4_takesDefaultData_88 : decode cX4_takesDefaultData 88 = .ok (.iconst 1, 1) := by decide +kernel
theorem dX4_takesDefaultData_89 : decode cX4_takesDefaultData 89 = .ok (.ireturn, 1) := by decide +kernel
theorem dX4_takesFrameData_0 : decode cX4_takesFrameData 0 = .ok (.aload_n 0, 1) := by decide +kernel
theorem dX4_takesFrameData_1 : decode cX4_takesFrameData 1 = .ok (.getfield 50, 3) := by decide +kernel
theorem dX4_takesFrameData_4 : decode cX4_takesFrameData 4 = .ok (.ifCond .eq 35, 3) := by decide +kernel
theorem dX4_takesFrameData_7 : decode cX4_takesFrameData 7 = .ok (.aload_n 0, 1) := by decide +kernel
theorem dX4_takesFrameData_8 : decode cX4_takesFrameData 8 = .ok (.getfield 40, 3) := by decide +kernel
theorem dX4_takesFrameData_11 : decode cX4_takesFrameData 11 = .ok (.ldc 123, 2) := by decide +kernel
theorem dX4_takesFrameData_13 : decode cX4_takesFrameData 13 = .ok (.if_icmp .eq 12, 3) := by decide +kernel
theorem dX4_takesFrameData_16 : decode cX4_takesFrameData 16 = .ok (.aload_n 0, 1) := by decide +kernel
theorem dX4_takesFrameData_17 : decode cX4_takesFrameData 17 = .ok (.getfield 40, 3) := by decide +kernel
theorem dX4_takesFrameData_20 : decode cX4_takesFrameData 20 = .ok (.ldc 89, 2) := by decide +kernel
theorem dX4_takesFrameData_22 : decode cX4_takesFrameData 22 = .ok (.if_icmp .ne 17, 3) := by decide +kernel
theorem dX4_takesFrameData_25 : decode cX4_takesFrameData 25 = .ok (.aload_n 0, 1) := by decide +kernel
theorem dX4_takesFrameData_26 : decode cX4_takesFrameData 26 = .ok (.aload_n 0, 1) := by decide +kernel
theorem dX4_takesFrameData_27 : decode cX4_takesFrameData 27 = .ok (.getfield 58, 3) := by decide +kernel
theorem dX4_takesFrameData_30 : decode cX4_takesFrameData 30 = .ok (.bipush 8, 2) := by decide +kernel
theorem dX4_takesFrameData_32 : decode cX4_takesFrameData 32 = .ok (.iadd, 1) := by decide +kernel
theorem dX4_takesFrameData_33 : decode cX4_takesFrameData 33 = .ok (.invokevirtual 137, 3) := by decide +kernel
theorem dX4_takesFrameData_36 : decode cX4_takesFrameData 36 = .ok (.ifCond .ne 5, 3) := by decide +kernel
theorem dX4_takesFrameData_39 : decode cX4_takesFrameData 39 = .ok (.iconst 0, 1) := by decide +kernel
theorem dX4_takesFrameData_40 : decode cX4_takesFrameData 40 = .ok (.ireturn, 1) := by decide +kernel
theorem dX4_takesFrameData_41 : decode cX4_takesFrameData 41 = .ok (.aload_n 0, 1) := by decide +kernel
theorem dX4_takesFrameData_42 : decode cX4_takesFrameData 42 = .ok (.getfield 40, 3) := by decide +kernel
theorem dX4_takesFrameData_45 : decode cX4_takesFrameData 45 = .ok (.ldc 123, 2) := by decide +kernel
theorem dX4_takesFrameData_47 : decode cX4_takesFrameData 47 = .ok (.if_icmp .ne 34, 3) := by decide +kernel
theorem dX4_takesFrameData_50 : decode cX4_takesFrameData 50 = .ok (.aload_n 0, 1) := by decide +kernel
theorem dX4_takesFrameData_51 : decode cX4_takesFrameData 51 = .ok (.aload_n 0, 1) := by decide +kernel
theorem dX4_takesFrameData_52 : decode cX4_takesFrameData 52 = .ok (.getfield 21, 3) := by decide +kernel
theorem dX4_takesFrameData_55 : decode cX4_takesFrameData 55 = .ok (.getfield 168, 3) := by decide +kernel
theorem dX4_takesFrameData_58 : decode cX4_takesFrameData 58 = .ok (.aload_n 0, 1) := by decide +kernel
theorem dX4_takesFrameData_59 : decode cX4_takesFrameData 59 = .ok (.getfield 21, 3) := by decide +kernel
theorem dX4_takesFrameData_62 : decode cX4_takesFrameData 62 = .ok (.getfield 124, 3) := by decide +kernel
theorem dX4_takesFrameData_65 : decode cX4_takesFrameData 65 = .ok (.iconst 1, 1) := by decide +kernel
theorem dX4_takesFrameData_66 : decode cX4_takesFrameData 66 = .ok (.isub, 1) := by decide +kernel
theorem dX4_takesFrameData_67 : decode cX4_takesFrameData 67 = .ok (.aaload, 1) := by decide +kernel
theorem dX4_takesFrameData_68 : decode cX4_takesFrameData 68 = .ok (.putfield 29, 3) := by decide +kernel
theorem dX4_takesFrameData_71 : decode cX4_takesFrameData 71 = .ok (.aload_n 0, 1) := by decide +kernel
theorem dX4_takesFrameData_72 : decode cX4_takesFrameData 72 = .ok (.getfield 12, 3) := by decide +kernel
theorem dX4_takesFrameData_75 : decode cX4_takesFrameData 75 = .ok (.getfield 158, 3) := by decide +kernel
theorem dX4_takesFrameData_78 : decode cX4_takesFrameData 78 = .ok (.invokevirtual 161, 3) := by decide +kernel
theorem dX4_takesFrameData_81 : decode cX4_takesFrameData 81 = .ok (.aload_n 0, 1) := by decide +kernel
theorem dX4_takesFrameData_82 : decode cX4_takesFrameData 82 = .ok (.getfield 12, 3) := by decide +kernel
theorem dX4_takesFrameData_85 : decode cX4_takesFrameData 85 = .ok (.getfield 158, 3) := by decide +kernel
theorem dX4_takesFrameData_88 : decode cX4_takesFrameData 88 = .ok (.aload_n 0, 1) := by decide +kernel
theorem dX4_takesFrameData_89 : decode cX4_takesFrameData 89 = .ok (.getfield 32, 3) := by decide +kernel
theorem dX4_takesFrameData_92 : decode cX4_takesFrameData 92 = .ok (.aload_n 0, 1) := by decide +kernel
theorem dX4_takesFrameData_93 : decode cX4_takesFrameData 93 = .ok (.getfield 58, 3) := by decide +kernel
theorem dX4_takesFrameData_96 : decode cX4_takesFrameData 96 = .ok (.bipush 8, 2) := by decide +kernel
theorem dX4_takesFrameData_98 : decode cX4_takesFrameData 98 = .ok (.iadd, 1) := by decide +kernel
theorem dX4_takesFrameData_99 : decode cX4_takesFrameData 99 = .ok (.iconst 4, 1) := by decide +kernel
theorem dX4_takesFrameData_100 : decode cX4_takesFrameData 100 = .ok (.iadd, 1) := by decide +kernel
theorem dX4_takesFrameData_101 : decode cX4_takesFrameData 101 = .ok (.aload_n 0, 1) := by decide +kernel
theorem dX4_takesFrameData_102 : decode cX4_takesFrameData 102 = .ok (.getfield 58, 3) := by decide +kernel
theorem dX4_takesFrameData_105 : decode cX4_takesFrameData 105 = .ok (.bipush 8, 2) := by decide +kernel
theorem dX4_takesFrameData_107 : decode cX4_takesFrameData 107 = .ok (.iadd, 1) := by decide +kernel
theorem dX4_takesFrameData_108 : decode cX4_takesFrameData 108 = .ok (.iload_n 1, 1) := by decide +kernel
theorem dX4_takesFrameData_109 : decode cX4_takesFrameData 109 = .ok (.iadd, 1) := by decide +kernel
theorem dX4_takesFrameData_110 : decode cX4_takesFrameData 110 = .ok (.invokevirtual 164, 3) := by decide +kernel
theorem dX4_takesFrameData_113 : decode cX4_takesFrameData 113 = .ok (.iconst 1, 1) := by decide +kernel
theorem dX4_takesFrameData_114 : decode cX4_takesFrameData 114 = .ok (.ireturn, 1) := by decide +kernel
theorem dX4_mayBeLeftOut_0 : decode cX4_mayBeLeftOut 0 = .ok (.aload_n 0, 1) := by decide +kernel
theorem dX4_mayBeLeftOut_1 : decode cX4_mayBeLeftOut 1 = .ok (.getfield 32, 3) := by decide +kernel
theorem dX4_mayBeLeftOut_4 : decode cX4_mayBeLeftOut 4 = .ok (.iload_n 1, 1) := by decide +kernel
theorem dX4_mayBeLeftOut_5 : decode cX4_mayBeLeftOut 5 = .ok (.invokevirtual 76, 3) := by decide +kernel
theorem dX4_mayBeLeftOut_8 : decode cX4_mayBeLeftOut 8 = .ok (.bipush 97, 2) := by decide +kernel
theorem dX4_mayBeLeftOut_10 : decode cX4_mayBeLeftOut 10 = .ok (.if_icmp .lt 7, 3) := by decide +kernel
theorem dX4_mayBeLeftOut_13 : decode cX4_mayBeLeftOut 13 = .ok (.iconst 1, 1) := by decide +kernel
theorem dX4_mayBeLeftOut_14 : decode cX4_mayBeLeftOut 14 = .ok (.goto 4, 3) := by decide +kernel
theorem dX4_mayBeLeftOut_17 : decode cX4_mayBeLeftOut 17 = .ok (.iconst 0, 1) := by decide +kernel
theorem dX4_mayBeLeftOut_18 : decode cX4_mayBeLeftOut 18 = .ok (.istore_n 2, 1) := by decide +kernel
theorem dX4_mayBeLeftOut_19 : decode cX4_mayBeLeftOut 19 = .ok (.iconst 0, 1) := by decide +kernel
theorem dX4_mayBeLeftOut_20 : decode cX4_mayBeLeftOut 20 = .ok (.istore_n 3, 1) := by decide +kernel
theorem dX4_mayBeLeftOut_21 : decode cX4_mayBeLeftOut 21 = .ok (.iload_n 3, 1) := by decide +kernel
theorem dX4_mayBeLeftOut_22 : decode cX4_mayBeLeftOut 22 = .ok (.iconst 4, 1) := by decide +kernel
theorem dX4_mayBeLeftOut_23 : decode cX4_mayBeLeftOut 23 = .ok (.if_icmp .ge 59, 3) := by decide +kernel
theorem dX4_mayBeLeftOut_26 : decode cX4_mayBeLeftOut 26 = .ok (.aload_n 0, 1) := by decide +kernel
theorem dX4_mayBeLeftOut_27 : decode cX4_mayBeLeftOut 27 = .ok (.getfield 32, 3) := by decide +kernel
theorem dX4_mayBeLeftOut_30 : decode cX4_mayBeLeftOut 30 = .ok (.iload_n 1, 1) := by decide +kernel
theorem dX4_mayBeLeftOut_31 : decode cX4_mayBeLeftOut 31 = .ok (.iload_n 3, 1) := by decide +kernel
theorem dX4_mayBeLeftOut_32 : decode cX4_mayBeLeftOut 32 = .ok (.iadd, 1) := by decide +kernel
theorem dX4_mayBeLeftOut_33 : decode cX4_mayBeLeftOut 33 = .ok (.invokevirtual 76, 3) := by decide +kernel
theorem dX4_mayBeLeftOut_36 : decode cX4_mayBeLeftOut 36 = .ok (.istore 4, 2) := by decide +kernel
theorem dX4_mayBeLeftOut_38 : decode cX4_mayBeLeftOut 38 = .ok (.iload_n 2, 1) := by decide +kernel
theorem dX4_mayBeLeftOut_39 : decode cX4_mayBeLeftOut 39 = .ok (.ifCond .eq 35, 3) := by decide +kernel
theorem dX4_mayBeLeftOut_42 : decode cX4_mayBeLeftOut 42 = .ok (.iload 4, 2) := by decide +kernel
theorem dX4_mayBeLeftOut_44 : decode cX4_mayBeLeftOut 44 = .ok (.bipush 65, 2) := by decide +kernel
theorem dX4_mayBeLeftOut_46 : decode cX4_mayBeLeftOut 46 = .ok (.if_icmp .lt 10, 3) := by decide +kernel
theorem dX4_mayBeLeftOut_49 : decode cX4_mayBeLeftOut 49 = .ok (.iload 4, 2) := by decide +kernel
theorem dX4_mayBeLeftOut_51 : decode cX4_mayBeLeftOut 51 = .ok (.bipush 90, 2) := by decide +kernel
theorem dX4_mayBeLeftOut_53 : decode cX4_mayBeLeftOut 53 = .ok (.if_icmp .le 17, 3) := by decide +kernel
theorem dX4_mayBeLeftOut_56 : decode cX4_mayBeLeftOut 56 = .ok (.iload 4, 2) := by decide +kernel
theorem dX4_mayBeLeftOut_58 : decode cX4_mayBeLeftOut 58 = .ok (.bipush 97, 2) := by decide +kernel
theorem dX4_mayBeLeftOut_60 : decode cX4_mayBeLeftOut 60 = .ok (.if_icmp .lt 14, 3) := by decide +kernel
theorem dX4_mayBeLeftOut_63 : decode cX4_mayBeLeftOut 63 = .ok (.iload 4, 2) := by decide +kernel
theorem dX4_mayBeLeftOut_65 : decode cX4_mayBeLeftOut 65 = .ok (.bipush 122, 2) := by decide +kernel
theorem dX4_mayBeLeftOut_67 : decode cX4_mayBeLeftOut 67 = .ok (.if_icmp .gt 7, 3) := by decide +kernel
theorem dX4_mayBeLeftOut_70 : decode cX4_mayBeLeftOut 70 = .ok (.iconst 1, 1) := by decide +kernel
theorem dX4_mayBeLeftOut_71 : decode cX4_mayBeLeftOut 71 = .ok (.goto 4, 3) := by decide +kernel
theorem dX4_mayBeLeftOut_74 : decode cX4_mayBeLeftOut 74 = .ok (.iconst 0, 1) := by decide +kernel
theorem dX4_mayBeLeftOut_75 : decode cX4_mayBeLeftOut 75 = .ok (.istore_n 2, 1) := by decide +kernel
theorem dX4_mayBeLeftOut_76 : decode cX4_mayBeLeftOut 76 = .ok (.iinc 3 1, 3) := by decide +kernel
theorem dX4_mayBeLeftOut_79 : decode cX4_mayBeLeftOut 79 = .ok (.goto (-58), 3) := by decide +kernel
theorem dX4_mayBeLeftOut_82 : decode cX4_mayBeLeftOut 82 = .ok (.iload_n 2, 1) := by decide +kernel
theorem dX4_mayBeLeftOut_83 : decode cX4_mayBeLeftOut 83 = .ok (.ireturn, 1) := by decide +kernel
theorem dX5_init_0 : decode cX5_init 0 = .ok (.aload_n 0, 1) := by decide +kernel
theorem dX5_init_1 : decode cX5_init 1 = .ok (.invokespecial 3, 3) := by decide +kernel
theorem dX5_init_4 : decode cX5_init 4 = .ok (.aload_n 0, 1) := by decide +kernel
theorem dX5_init_5 : decode cX5_init 5 = .ok (.bipush 8, 2) := by decide +kernel
theorem dX5_init_7 : decode cX5_init 7 = .ok (.anewarray 9, 3) := by decide +kernel
theorem dX5_init_10 : decode cX5_init 10 = .ok (.putfield 11, 3) := by decide +kernel
theorem dX5_init_13 : decode cX5_init 13 = .ok (.aload_n 0, 1) := by decide +kernel
theorem dX5_init_14 : decode cX5_init 14 = .ok (.new 9, 3) := by decide +kernel
theorem dX5_init_17 : decode cX5_init 17 = .ok (.dup, 1) := by decide +kernel
theorem dX5_init_18 : decode cX5_init 18 = .ok (.invokespecial 17, 3) := by decide +kernel
theorem dX5_init_21 : decode cX5_init 21 = .ok (.putfield 18, 3) := by decide +kernel
theorem dX5_init_24 : decode cX5_init 24 = .ok (.iconst 0, 1) := by decide +kernel
theorem dX5_init_25 : decode cX5_init 25 = .ok (.istore_n 1, 1) := by decide +kernel
theorem dX5_init_26 : decode cX5_init 26 = .ok (.iload_n 1, 1) := by decide +kernel
theorem dX5_init_27 : decode cX5_init 27 = .ok (.bipush 8, 2) := by decide +kernel
theorem dX5_init_29 : decode cX5_init 29 = .ok (.if_icmp .ge 22, 3) := by decide +kernel
theorem dX5_init_32 : decode cX5_init 32 = .ok (.aload_n 0, 1) := by decide +kernel
theorem dX5_init_33 : decode cX5_init 33 = .ok (.getfield 11, 3) := by decide +kernel
theorem dX5_init_36 : decode cX5_init 36 = .ok (.iload_n 1, 1) := by decide +kernel
theorem dX5_init_37 : decode cX5_init 37 = .ok (.new 9, 3) := by decide +kernel
theorem dX5_init_40 : decode cX5_init 40 = .ok (.dup, 1) := by decide +kernel
theorem dX5_init_41 : decode cX5_init 41 = .ok (.invokespecial 17, 3) := by decide +kernel
theorem dX5_init_44 : decode cX5_init 44 = .ok (.aastore, 1) := by decide +kernel
theorem dX5_init_45 : decode cX5_init 45 = .ok (.iinc 1 1, 3) := by decide +kernel
theorem dX5_init_48 : decode cX5_init 48 = .ok (.goto (-22), 3) := by decide +kernel
theorem dX5_init_51 : decode cX5_init 51 = .ok (.return_, 1) := by decide +kernel
theorem dX5_start_0 : decode cX5_start 0 = .ok (.aload_n 0, 1) := by decide +kernel
theorem dX5_start_1 : decode cX5_start 1 = .ok (.iconst 1, 1) := by decide +kernel
theorem dX5_start_2 : decode cX5_start 2 = .ok (.putfield 22, 3) := by decide +kernel
theorem dX5_start_5 : decode cX5_start 5 = .ok (.aload_n 0, 1) := by decide +kernel
theorem dX5_start_6 : decode cX5_start 6 = .ok (.iconst 0, 1) := by decide +kernel
theorem dX5_start_7 : decode cX5_start 7 = .ok (.putfield 26, 3) := by decide +kernel
theorem dX5_start_10 : decode cX5_start 10 = .ok (.aload_n 0, 1) := by decide +kernel
theorem dX5_start_11 : decode cX5_start 11 = .ok (.iload_n 1, 1) := by decide +kernel
theorem dX5_start_12 : decode cX5_start 12 = .ok (.putfield 29, 3) := by decide +kernel
theorem dX5_start_15 : decode cX5_start 15 = .ok (.aload_n 0, 1) := by decide +kernel
theorem dX5_start_16 : decode cX5_start 16 = .ok (.iload_n 2, 1) := by decide +kernel
theorem dX5_start_17 : decode cX5_start 17 = .ok (.putfield 33, 3) := by decide +kernel
theorem dX5_start_20 : decode cX5_start 20 = .ok (.aload_n 0, 1) := by decide +kernel
theorem dX5_start_21 : decode cX5_start 21 = .ok (.getfield 18, 3) := by decide +kernel
theorem dX5_start_24 : decode cX5_start 24 = .ok (.iload_n 1, 1) := by decide +kernel
theorem dX5_start_25 : decode cX5_start 25 = .ok (.putfield 36, 3) := by decide +kernel
theorem dX5_start_28 : decode cX5_start 28 = .ok (.aload_n 0, 1) := by decide +kernel
theorem dX5_start_29 : decode cX5_start 29 = .ok (.getfield 18, 3) := by decide +kernel
theorem dX5_start_32 : decode cX5_start 32 = .ok (.iload_n 2, 1) := by decide +kernel
theorem dX5_start_33 : decode cX5_start 33 = .ok (.putfield 37, 3) := by decide +kernel
theorem dX5_start_36 : decode cX5_start 36 = .ok (.aload_n 0, 1) := by decide +kernel
theorem dX5_start_37 : decode cX5_start 37 = .ok (.iconst 0, 1) := by decide +kernel
theorem dX5_start_38 : decode cX5_start 38 = .ok (.putfield 38, 3) := by decide +kernel
theorem dX5_start_41 : decode cX5_start 41 = .ok (.return_, 1) := by decide +kernel
theorem dX5_allows_0 : decode cX5_allows 0 = .ok (.iload_n 1, 1) := by decide +kernel
theorem dX5_allows_1 : decode cX5_allows 1 = .ok (.iconst 1, 1) := by decide +kernel
theorem dX5_allows_2 : decode cX5_allows 2 = .ok (.if_icmp .lt 80, 3) := by decide +kernel
theorem dX5_allows_5 : decode cX5_allows 5 = .ok (.iload_n 1, 1) := by decide +kernel
theorem dX5_allows_6 : decode cX5_allows 6 = .ok (.aload_n 0, 1) := by decide +kernel
theorem dX5_allows_7 : decode cX5_allows 7 = .ok (.getfield 29, 3) := by decide +kernel
theorem dX5_allows_10 : decode cX5_allows 10 = .ok (.if_icmp .gt 72, 3) := by decide +kernel
theorem dX5_allows_13 : decode cX5_allows 13 = .ok (.iload_n 3, 1) := by decide +kernel
theorem dX5_allows_14 : decode cX5_allows 14 = .ok (.ifCond .lt 68, 3) := by decide +kernel
theorem dX5_allows_17 : decode cX5_allows 17 = .ok (.iload_n 3, 1) := by decide +kernel
theorem dX5_allows_18 : decode cX5_allows 18 = .ok (.aload_n 0, 1) := by decide +kernel
theorem dX5_allows_19 : decode cX5_allows 19 = .ok (.getfield 29, 3) := by decide +kernel
theorem dX5_allows_22 : decode cX5_allows 22 = .ok (.iload_n 1, 1) := by decide +kernel
theorem dX5_allows_23 : decode cX5_allows 23 = .ok (.isub, 1) := by decide +kernel
theorem dX5_allows_24 : decode cX5_allows 24 = .ok (.if_icmp .gt 58, 3) := by decide +kernel
theorem dX5_allows_27 : decode cX5_allows 27 = .ok (.iload_n 2, 1) := by decide +kernel
theorem dX5_allows_28 : decode cX5_allows 28 = .ok (.iconst 1, 1) := by decide +kernel
theorem dX5_allows_29 : decode cX5_allows 29 = .ok (.if_icmp .lt 53, 3) := by decide +kernel
theorem dX5_allows_32 : decode cX5_allows 32 = .ok (.iload_n 2, 1) := by decide +kernel
theorem dX5_allows_33 : decode cX5_allows 33 = .ok (.aload_n 0, 1) := by decide +kernel
theorem dX5_allows_34 : decode cX5_allows 34 = .ok (.getfield 33, 3) := by decide +kernel
theorem dX5_allows_37 : decode cX5_allows 37 = .ok (.if_icmp .gt 45, 3) := by decide +kernel
theorem dX5_allows_40 : decode cX5_allows 40 = .ok (.iload 4, 2) := by decide +kernel
theorem dX5_allows_42 : decode cX5_allows 42 = .ok (.ifCond .lt 40, 3) := by decide +kernel
theorem dX5_allows_45 : decode cX5_allows 45 = .ok (.iload 4, 2) := by decide +kernel
theorem dX5_allows_47 : decode cX5_allows 47 = .ok (.aload_n 0, 1) := by decide +kernel
theorem dX5_allows_48 : decode cX5_allows 48 = .ok (.getfield 33, 3) := by decide +kernel
theorem dX5_allows_51 : decode cX5_allows 51 = .ok (.iload_n 2, 1) := by decide +kernel
theorem dX5_allows_52 : decode cX5_allows 52 = .ok (.isub, 1) := by decide +kernel
theorem dX5_allows_53 : decode cX5_allows 53 = .ok (.if_icmp .gt 29, 3) := by decide +kernel
theorem dX5_allows_56 : decode cX5_allows 56 = .ok (.iload 5, 2) := by decide +kernel
theorem dX5_allows_58 : decode cX5_allows 58 = .ok (.ifCond .lt 24, 3) := by decide +kernel
theorem dX5_allows_61 : decode cX5_allows 61 = .ok (.iload 5, 2) := by decide +kernel
theorem dX5_allows_63 : decode cX5_allows 63 = .ok (.iconst 2, 1) := by decide +kernel
theorem dX5_allows_64 : decode cX5_allows 64 = .ok (.if_icmp .gt 18, 3) := by decide +kernel
theorem dX5_allows_67 : decode cX5_allows 67 = .ok (.iload 6, 2) := by decide +kernel
theorem dX5_allows_69 : decode cX5_allows 69 = .ok (.ifCond .lt 13, 3) := by decide +kernel
theorem dX5_allows_72 : decode cX5_allows 72 = .ok (.iload 6, 2) := by decide +kernel
theorem dX5_allows_74 : decode cX5_allows 74 = .ok (.iconst 1, 1) := by decide +kernel
theorem dX5_allows_75 : decode cX5_allows 75 = .ok (.if_icmp .gt 7, 3) := by decide +kernel
theorem dX5_allows_78 : decode cX5_allows 78 = .ok (.iconst 1, 1) := by decide +kernel
theorem dX5_allows_79 : decode cX5_allows 79 = .ok (.goto 4, 3) := by decide +kernel
theorem dX5_allows_82 : decode cX5_allows 82 = .ok (.iconst 0, 1) := by decide +kernel
theorem dX5_allows_83 : decode cX5_allows 83 = .ok (.ireturn, 1) := by decide +kernel
theorem dX5_add_0 : decode cX5_add 0 = .ok (.aload_n 0, 1) := by decide +kernel
theorem dX5_add_1 : decode cX5_add 1 = .ok (.getfield 38, 3) := by decide +kernel
theorem dX5_add_4 : decode cX5_add 4 = .ok (.bipush 8, 2) := by decide +kernel
theorem dX5_add_6 : decode cX5_add 6 = .ok (.if_icmp .lt 4, 3) := by decide +kernel
theorem dX5_add_9 : decode cX5_add 9 = .ok (.return_, 1) := by decide +kernel
theorem dX5_add_10 : decode cX5_add 10 = .ok (.aload_n 0, 1) := by decide +kernel
theorem dX5_add_11 : decode cX5_add 11 = .ok (.getfield 11, 3) := by decide +kernel
theorem dX5_add_14 : decode cX5_add 14 = .ok (.aload_n 0, 1) := by decide +kernel
theorem dX5_add_15 : decode cX5_add 15 = .ok (.getfield 38, 3) := by decide +kernel
theorem dX5_add_18 : decode cX5_add 18 = .ok (.aaload, 1) := by decide +kernel
theorem dX5_add_19 : decode cX5_add 19 = .ok (.astore 7, 2) := by decide +kernel
theorem dX5_add_21 : decode cX5_add 21 = .ok (.aload 7, 2) := by decide +kernel
theorem dX5_add_23 : decode cX5_add 23 = .ok (.iload_n 1, 1) := by decide +kernel
theorem dX5_add_24 : decode cX5_add 24 = .ok (.putfield 36, 3) := by decide +kernel
theorem dX5_add_27 : decode cX5_add 27 = .ok (.aload 7, 2) := by decide +kernel
theorem dX5_add_29 : decode cX5_add 29 = .ok (.iload_n 2, 1) := by decide +kernel
theorem dX5_add_30 : decode cX5_add 30 = .ok (.putfield 37, 3) := by decide +kernel
theorem dX5_add_33 : decode cX5_add 33 = .ok (.aload 7, 2) := by decide +kernel
theorem dX5_add_35 : decode cX5_add 35 = .ok (.iload_n 3, 1) := by decide +kernel
theorem dX5_add_36 : decode cX5_add 36 = .ok (.putfield 41, 3) := by decide +kernel
theorem dX5_add_39 : decode cX5_add 39 = .ok (.aload 7, 2) := by decide +kernel
theorem dX5_add_41 : decode cX5_add 41 = .ok (.iload 4, 2) := by decide +kernel
theorem dX5_add_43 : decode cX5_add 43 = .ok (.putfield 44, 3) := by decide +kernel
theorem dX5_add_46 : decode cX5_add 46 = .ok (.aload 7, 2) := by decide +kernel
theorem dX5_add_48 : decode cX5_add 48 = .ok (.iload 5, 2) := by decide +kernel
theorem dX5_add_50 : decode cX5_add 50 = .ok (.putfield 47, 3) := by decide +kernel
theorem dX5_add_53 : decode cX5_add 53 = .ok (.aload 7, 2) := by decide +kernel
theorem dX5_add_55 : decode cX5_add 55 = .ok (.iload 6, 2) := by decide +kernel
theorem dX5_add_57 : decode cX5_add 57 = .ok (.putfield 50, 3) := by decide +kernel
theorem dX5_add_60 : decode cX5_add 60 = .ok (.aload_n 0, 1) := by decide +kernel
theorem dX5_add_61 : decode cX5_add 61 = .ok (.dup, 1) := by decide +kernel
theorem dX5_add_62 : decode cX5_add 62 = .ok (.getfield 38, 3) := by decide +kernel
theorem dX5_add_65 : decode cX5_add 65 = .ok (.iconst 1, 1) := by decide +kernel
theorem dX5_add_66 : decode cX5_add 66 = .ok (.iadd, 1) := by decide +kernel
theorem dX5_add_67 : decode cX5_add 67 = .ok (.putfield 38, 3) := by decide +kernel
theorem dX5_add_70 : decode cX5_add 70 = .ok (.return_, 1) := by decide +kernel
theorem dX5_hasFrame_0 : decode cX5_hasFrame 0 = .ok (.aload_n 0, 1) := by decide +kernel
theorem dX5_hasFrame_1 : decode cX5_hasFrame 1 = .ok (.getfield 22, 3) := by decide +kernel
theorem dX5_hasFrame_4 : decode cX5_hasFrame 4 = .ok (.ifCond .eq 19, 3) := by decide +kernel
theorem dX5_hasFrame_7 : decode cX5_hasFrame 7 = .ok (.iload_n 1, 1) := by decide +kernel
theorem dX5_hasFrame_8 : decode cX5_hasFrame 8 = .ok (.ifCond .lt 15, 3) := by decide +kernel
theorem dX5_hasFrame_11 : decode cX5_hasFrame 11 = .ok (.iload_n 1, 1) := by decide +kernel
theorem dX5_hasFrame_12 : decode cX5_hasFrame 12 = .ok (.aload_n 0, 1) := by decide +kernel
theorem dX5_hasFrame_13 : decode cX5_hasFrame 13 = .ok (.getfield 38, 3) := by decide +kernel
theorem dX5_hasFrame_16 : decode cX5_hasFrame 16 = .ok (.if_icmp .ge 7, 3) := by decide +kernel
theorem dX5_hasFrame_19 : decode cX5_hasFrame 19 = .ok (.iconst 1, 1) := by decide +kernel
theorem dX5_hasFrame_20 : decode cX5_hasFrame 20 = .ok (.goto 4, 3) := by decide +kernel
theorem dX5_hasFrame_23 : decode cX5_hasFrame 23 = .ok (.iconst 0, 1) := by decide +kernel
theorem dX5_hasFrame_24 : decode cX5_hasFrame 24 = .ok (.ireturn, 1) := by decide +kernel
theorem dX5_firstIsCanvas_0 : decode cX5_firstIsCanvas 0 = .ok (.aload_n 0, 1) := by decide +kernel
theorem dX5_firstIsCanvas_1 : decode cX5_firstIsCanvas 1 = .ok (.getfield 38, 3) := by decide +kernel
theorem dX5_firstIsCanvas_4 : decode cX5_firstIsCanvas 4 = .ok (.ifCond .le 39, 3) := by decide +kernel
theorem dX5_firstIsCanvas_7 : decode cX5_firstIsCanvas 7 = .ok (.aload_n 0, 1) := by decide +kernel
theorem dX5_firstIsCanvas_8 : decode cX5_firstIsCanvas 8 = .ok (.getfield 11, 3) := by decide +kernel
theorem dX5_firstIsCanvas_11 : decode cX5_firstIsCanvas 11 = .ok (.iconst 0, 1) := by decide +kernel
theorem dX5_firstIsCanvas_12 : decode cX5_firstIsCanvas 12 = .ok (.aaload, 1) := by decide +kernel
theorem dX5_firstIsCanvas_13 : decode cX5_firstIsCanvas 13 = .ok (.getfield 36, 3) := by decide +kernel
theorem dX5_firstIsCanvas_16 : decode cX5_firstIsCanvas 16 = .ok (.aload_n 0, 1) := by decide +kernel
theorem dX5_firstIsCanvas_17 : decode cX5_firstIsCanvas 17 = .ok (.getfield 29, 3) := by decide +kernel
theorem dX5_firstIsCanvas_20 : decode cX5_firstIsCanvas 20 = .ok (.if_icmp .ne 23, 3) := by decide +kernel
theorem dX5_firstIsCanvas_23 : decode cX5_firstIsCanvas 23 = .ok (.aload_n 0, 1) := by decide +kernel
theorem dX5_firstIsCanvas_24 : decode cX5_firstIsCanvas 24 = .ok (.getfield 11, 3) := by decide +kernel
theorem dX5_firstIsCanvas_27 : decode cX5_firstIsCanvas 27 = .ok (.iconst 0, 1) := by decide +kernel
theorem dX5_firstIsCanvas_28 : decode cX5_firstIsCanvas 28 = .ok (.aaload, 1) := by decide +kernel
theorem dX5_firstIsCanvas_29 : decode cX5_firstIsCanvas 29 = .ok (.getfield 37, 3) := by decide +kernel
theorem dX5_firstIsCanvas_32 : decode cX5_firstIsCanvas 32 = .ok (.aload_n 0, 1) := by decide +kernel
theorem dX5_firstIsCanvas_33 : decode cX5_firstIsCanvas 33 = .ok (.getfield 33, 3) := by decide +kernel
theorem dX5_firstIsCanvas_36 : decode cX5_firstIsCanvas 36 = .ok (.if_icmp .ne 7, 3) := by decide +kernel
theorem dX5_firstIsCanvas_39 : decode cX5_firstIsCanvas 39 = .ok (.iconst 1, 1) := by decide +kernel
theorem dX5_firstIsCanvas_40 : decode cX5_firstIsCanvas 40 = .ok (.goto 4, 3) := by decide +kernel
theorem dX5_firstIsCanvas_43 : decode cX5_firstIsCanvas 43 = .ok (.iconst 0, 1) := by decide +kernel
theorem dX5_firstIsCanvas_44 : decode cX5_firstIsCanvas 44 = .ok (.ireturn, 1) := by decide +kernel
theorem dX5_defaultPicture_0 : decode cX5_defaultPicture 0 = .ok (.aload_n 0, 1) := by decide +kernel
theorem dX5_defaultPicture_1 : decode cX5_defaultPicture 1 = .ok (.getfield 26, 3) := by decide +kernel
theorem dX5_defaultPicture_4 : decode cX5_defaultPicture 4 = .ok (.ifCond .eq 12, 3) := by decide +kernel
theorem dX5_defaultPicture_7 : decode cX5_defaultPicture 7 = .ok (.aload_n 0, 1) := by decide +kernel
theorem dX5_defaultPicture_8 : decode cX5_defaultPicture 8 = .ok (.getfield 11, 3) := by decide +kernel
theorem dX5_defaultPicture_11 : decode cX5_defaultPicture 11 = .ok (.iconst 0, 1) := by decide +kernel
theorem dX5_defaultPicture_12 : decode cX5_defaultPicture 12 = .ok (.aaload, 1) := by decide +kernel
theorem dX5_defaultPicture_13 : decode cX5_defaultPicture 13 = .ok (.goto 7, 3) := by decide +kernel
theorem dX5_defaultPicture_16 : decode cX5_defaultPicture 16 = .ok (.aload_n 0, 1) := by decide +kernel
theorem dX5_defaultPicture_17 : decode cX5_defaultPicture 17 = .ok (.getfield 18, 3) := by decide +kernel
theorem dX5_defaultPicture_20 : decode cX5_defaultPicture 20 = .ok (.areturn, 1) := by decide +kernel
theorem dX5_fact_0 : decode cX5_fact 0 = .ok (.iload_n 1, 1) := by decide +kernel
theorem dX5_fact_1 : decode cX5_fact 1 = .ok (.tableswitch 51 0 3 #[31, 36, 41, 46], 31) := by decide +kernel
theorem dX5_fact_32 : decode cX5_fact 32 = .ok (.aload_n 0, 1) := by decide +kernel
theorem dX5_fact_33 : decode cX5_fact 33 = .ok (.getfield 29, 3) := by decide +kernel
theorem dX5_fact_36 : decode cX5_fact 36 = .ok (.ireturn, 1) := by decide +kernel
theorem dX5_fact_37 : decode cX5_fact 37 = .ok (.aload_n 0, 1) := by decide +kernel
theorem dX5_fact_38 : decode cX5_fact 38 = .ok (.getfield 33, 3) := by decide +kernel
theorem dX5_fact_41 : decode cX5_fact 41 = .ok (.ireturn, 1) := by decide +kernel
theorem dX5_fact_42 : decode cX5_fact 42 = .ok (.aload_n 0, 1) := by decide +kernel
theorem dX5_fact_43 : decode cX5_fact 43 = .ok (.getfield 38, 3) := by decide +kernel
theorem dX5_fact_46 : decode cX5_fact 46 = .ok (.ireturn, 1) := by decide +kernel
theorem dX5_fact_47 : decode cX5_fact 47 = .ok (.aload_n 0, 1) := by decide +kernel
theorem dX5_fact_48 : decode cX5_fact 48 = .ok (.getfield 53, 3) := by decide +kernel
theorem dX5_fact_51 : decode cX5_fact 51 = .ok (.ireturn, 1) := by decide +kernel
theorem dX5_fact_52 : decode cX5_fact 52 = .ok (.aload_n 0, 1) := by decide +kernel
theorem dX5_fact_53 : decode cX5_fact 53 = .ok (.getfield 26, 3) := by decide +kernel
theorem dX5_fact_56 : decode cX5_fact 56 = .ok (.ifCond .eq 7, 3) := by decide +kernel
theorem dX5_fact_59 : decode cX5_fact 59 = .ok (.iconst 1, 1) := by decide +kernel
theorem dX5_fact_60 : decode cX5_fact 60 = .ok (.goto 4, 3) := by decide +kernel
theorem dX5_fact_63 : decode cX5_fact 63 = .ok (.iconst 0, 1) := by decide +kernel
theorem dX5_fact_64 : decode cX5_fact 64 = .ok (.ireturn, 1) := by decide +kernel
theorem dX6_fill_0 : decode cX6_fill 0 = .ok (.iconst 1, 1) := by decide +kernel
theorem dX6_fill_1 : decode cX6_fill 1 = .ok (.iconst 4, 1) := by decide +kernel
theorem dX6_fill_2 : decode cX6_fill 2 = .ok (.aload_n 0, 1) := by decide +kernel
theorem dX6_fill_3 : decode cX6_fill 3 = .ok (.getfield 7, 3) := by decide +kernel
theorem dX6_fill_6 : decode cX6_fill 6 = .ok (.imul, 1) := by decide +kernel
theorem dX6_fill_7 : decode cX6_fill 7 = .ok (.iadd, 1) := by decide +kernel
theorem dX6_fill_8 : decode cX6_fill 8 = .ok (.istore_n 2, 1) := by decide +kernel
theorem dX6_fill_9 : decode cX6_fill 9 = .ok (.aload_n 1, 1) := by decide +kernel
theorem dX6_fill_10 : decode cX6_fill 10 = .ok (.getfield 13, 3) := by decide +kernel
theorem dX6_fill_13 : decode cX6_fill 13 = .ok (.iload_n 2, 1) := by decide +kernel
theorem dX6_fill_14 : decode cX6_fill 14 = .ok (.aload_n 0, 1) := by decide +kernel
theorem dX6_fill_15 : decode cX6_fill 15 = .ok (.getfield 18, 3) := by decide +kernel
theorem dX6_fill_18 : decode cX6_fill 18 = .ok (.imul, 1) := by decide +kernel
theorem dX6_fill_19 : decode cX6_fill 19 = .ok (.if_icmp .eq 5, 3) := by decide +kernel
theorem dX6_fill_22 : decode cX6_fill 22 = .ok (.iconst 0, 1) := by decide +kernel
theorem dX6_fill_23 : decode cX6_fill 23 = .ok (.ireturn, 1) := by decide +kernel
theorem dX6_fill_24 : decode cX6_fill 24 = .ok (.iconst 0, 1) := by decide +kernel
theorem dX6_fill_25 : decode cX6_fill 25 = .ok (.istore_n 3, 1) := by decide +kernel
theorem dX6_fill_26 : decode cX6_fill 26 = .ok (.iload_n 3, 1) := by decide +kernel
theorem dX6_fill_27 : decode cX6_fill 27 = .ok (.aload_n 0, 1) := by decide +kernel
theorem dX6_fill_28 : decode cX6_fill 28 = .ok (.getfield 18, 3) := by decide +kernel
theorem dX6_fill_31 : decode cX6_fill 31 = .ok (.if_icmp .ge 85, 3) := by decide +kernel
theorem dX6_fill_34 : decode cX6_fill 34 = .ok (.aload_n 1, 1) := by decide +kernel
theorem dX6_fill_35 : decode cX6_fill 35 = .ok (.iload_n 3, 1) := by decide +kernel
theorem dX6_fill_36 : decode cX6_fill 36 = .ok (.iload_n 2, 1) := by decide +kernel
theorem dX6_fill_37 : decode cX6_fill 37 = .ok (.imul, 1) := by decide +kernel
theorem dX6_fill_38 : decode cX6_fill 38 = .ok (.invokevirtual 21, 3) := by decide +kernel
theorem dX6_fill_41 : decode cX6_fill 41 = .ok (.istore 4, 2) := by decide +kernel
theorem dX6_fill_43 : decode cX6_fill 43 = .ok (.iload 4, 2) := by decide +kernel
theorem dX6_fill_45 : decode cX6_fill 45 = .ok (.ifCond .lt 9, 3) := by decide +kernel
theorem dX6_fill_48 : decode cX6_fill 48 = .ok (.iload 4, 2) := by decide +kernel
theorem dX6_fill_50 : decode cX6_fill 50 = .ok (.iconst 4, 1) := by decide +kernel
theorem dX6_fill_51 : decode cX6_fill 51 = .ok (.if_icmp .le 5, 3) := by decide +kernel
theorem dX6_fill_54 : decode cX6_fill 54 = .ok (.iconst 0, 1) := by decide +kernel
theorem dX6_fill_55 : decode cX6_fill 55 = .ok (.ireturn, 1) := by decide +kernel
theorem dX6_fill_56 : decode cX6_fill 56 = .ok (.aload_n 1, 1) := by decide +kernel
theorem dX6_fill_57 : decode cX6_fill 57 = .ok (.iload_n 3, 1) := by decide +kernel
theorem dX6_fill_58 : decode cX6_fill 58 = .ok (.iload_n 2, 1) := by decide +kernel
theorem dX6_fill_59 : decode cX6_fill 59 = .ok (.iload 4, 2) := by decide +kernel
theorem dX6_fill_61 : decode cX6_fill 61 = .ok (.invokestatic 25, 3) := by decide +kernel
theorem dX6_fill_64 : decode cX6_fill 64 = .ok (.iconst 0, 1) := by decide +kernel
theorem dX6_fill_65 : decode cX6_fill 65 = .ok (.istore 5, 2) := by decide +kernel
theorem dX6_fill_67 : decode cX6_fill 67 = .ok (.iload 5, 2) := by decide +kernel
theorem dX6_fill_69 : decode cX6_fill 69 = .ok (.aload_n 0, 1) := by decide +kernel
theorem dX6_fill_70 : decode cX6_fill 70 = .ok (.getfield 7, 3) := by decide +kernel
theorem dX6_fill_73 : decode cX6_fill 73 = .ok (.if_icmp .ge 37, 3) := by decide +kernel
theorem dX6_fill_76 : decode cX6_fill 76 = .ok (.aload_n 0, 1) := by decide +kernel
theorem dX6_fill_77 : decode cX6_fill 77 = .ok (.getfield 31, 3) := by decide +kernel
theorem dX6_fill_80 : decode cX6_fill 80 = .ok (.iload_n 3, 1) := by decide +kernel
theorem dX6_fill_81 : decode cX6_fill 81 = .ok (.aload_n 0, 1) := by decide +kernel
theorem dX6_fill_82 : decode cX6_fill 82 = .ok (.getfield 7, 3) := by decide +kernel
theorem dX6_fill_85 : decode cX6_fill 85 = .ok (.imul, 1) := by decide +kernel
theorem dX6_fill_86 : decode cX6_fill 86 = .ok (.iload 5, 2) := by decide +kernel
theorem dX6_fill_88 : decode cX6_fill 88 = .ok (.iadd, 1) := by decide +kernel
theorem dX6_fill_89 : decode cX6_fill 89 = .ok (.aload_n 1, 1) := by decide +kernel
theorem dX6_fill_90 : decode cX6_fill 90 = .ok (.iload_n 3, 1) := by decide +kernel
theorem dX6_fill_91 : decode cX6_fill 91 = .ok (.iload_n 2, 1) := by decide +kernel
theorem dX6_fill_92 : decode cX6_fill 92 = .ok (.imul, 1) := by decide +kernel
theorem dX6_fill_93 : decode cX6_fill 93 = .ok (.iconst 1, 1) := by decide +kernel
theorem dX6_fill_94 : decode cX6_fill 94 = .ok (.iadd, 1) := by decide +kernel
theorem dX6_fill_95 : decode cX6_fill 95 = .ok (.iconst 4, 1) := by decide +kernel
theorem dX6_fill_96 : decode cX6_fill 96 = .ok (.iload 5, 2) := by decide +kernel
theorem dX6_fill_98 : decode cX6_fill 98 = .ok (.imul, 1) := by decide +kernel
theorem dX6_fill_99 : decode cX6_fill 99 = .ok (.iadd, 1) := by decide +kernel
theorem dX6_fill_100 : decode cX6_fill 100 = .ok (.invokevirtual 35, 3) := by decide +kernel
theorem dX6_fill_103 : decode cX6_fill 103 = .ok (.iastore, 1) := by decide +kernel
theorem dX6_fill_104 : decode cX6_fill 104 = .ok (.iinc 5 1, 3) := by decide +kernel
theorem dX6_fill_107 : decode cX6_fill 107 = .ok (.goto (-40), 3) := by decide +kernel
theorem dX6_fill_110 : decode cX6_fill 110 = .ok (.iinc 3 1, 3) := by decide +kernel
theorem dX6_fill_113 : decode cX6_fill 113 = .ok (.goto (-87), 3) := by decide +kernel
theorem dX6_fill_116 : decode cX6_fill 116 = .ok (.iconst 1, 1) := by decide +kernel
theorem dX6_fill_117 : decode cX6_fill 117 = .ok (.ireturn, 1) := by decide +kernel
theorem dX6_unfilter_0 : decode cX6_unfilter 0 = .ok (.iload_n 1, 1) := by decide +kernel
theorem dX6_unfilter_1 : decode cX6_unfilter 1 = .ok (.iload_n 2, 1) := by decide +kernel
theorem dX6_unfilter_2 : decode cX6_unfilter 2 = .ok (.imul, 1) := by decide +kernel
theorem dX6_unfilter_3 : decode cX6_unfilter 3 = .ok (.iconst 1, 1) := by decide +kernel
theorem dX6_unfilter_4 : decode cX6_unfilter 4 = .ok (.iadd, 1) := by decide +kernel
theorem dX6_unfilter_5 : decode cX6_unfilter 5 = .ok (.istore 4, 2) := by decide +kernel
theorem dX6_unfilter_7 : decode cX6_unfilter 7 = .ok (.iconst 0, 1) := by decide +kernel
theorem dX6_unfilter_8 : decode cX6_unfilter 8 = .ok (.istore 5, 2) := by decide +kernel
theorem dX6_unfilter_10 : decode cX6_unfilter 10 = .ok (.iload 5, 2) := by decide +kernel
theorem dX6_unfilter_12 : decode cX6_unfilter 12 = .ok (.iload_n 2, 1) := by decide +kernel
theorem dX6_unfilter_13 : decode cX6_unfilter 13 = .ok (.iconst 1, 1) := by decide +kernel
theorem dX6_unfilter_14 : decode cX6_unfilter 14 = .ok (.isub, 1) := by decide +kernel
theorem dX6_unfilter_15 : decode cX6_unfilter 15 = .ok (.if_icmp .ge 105, 3) := by decide +kernel
theorem dX6_unfilter_18 : decode cX6_unfilter 18 = .ok (.iload 4, 2) := by decide +kernel
theorem dX6_unfilter_20 : decode cX6_unfilter 20 = .ok (.iload 5, 2) := by decide +kernel
theorem dX6_unfilter_22 : decode cX6_unfilter 22 = .ok (.iadd, 1) := by decide +kernel
theorem dX6_unfilter_23 : decode cX6_unfilter 23 = .ok (.istore 6, 2) := by decide +kernel
theorem dX6_unfilter_25 : decode cX6_unfilter 25 = .ok (.iload 5, 2) := by decide +kernel
theorem dX6_unfilter_27 : decode cX6_unfilter 27 = .ok (.iconst 4, 1) := by decide +kernel
theorem dX6_unfilter_28 : decode cX6_unfilter 28 = .ok (.if_icmp .lt 14, 3) := by decide +kernel
theorem dX6_unfilter_31 : decode cX6_unfilter 31 = .ok (.aload_n 0, 1) := by decide +kernel
theorem dX6_unfilter_32 : decode cX6_unfilter 32 = .ok (.iload 6, 2) := by decide +kernel
theorem dX6_unfilter_34 : decode cX6_unfilter 34 = .ok (.iconst 4, 1) := by decide +kernel
theorem dX6_unfilter_35 : decode cX6_unfilter 35 = .ok (.isub, 1) := by decide +kernel
theorem dX6_unfilter_36 : decode cX6_unfilter 36 = .ok (.invokevirtual 21, 3) := by decide +kernel
theorem dX6_unfilter_39 : decode cX6_unfilter 39 = .ok (.goto 4, 3) := by decide +kernel
theorem dX6_unfilter_42 : decode cX6_unfilter 42 = .ok (.iconst 0, 1) := by decide +kernel
theorem dX6_unfilter_43 : decode cX6_unfilter 43 = .ok (.istore 7, 2) := by decide +kernel
theorem dX6_unfilter_45 : decode cX6_unfilter 45 = .ok (.iload_n 1, 1) := by decide +kernel
theorem dX6_unfilter_46 : decode cX6_unfilter 46 = .ok (.ifCond .le 14, 3) := by decide +kernel
theorem dX6_unfilter_49 : decode cX6_unfilter 49 = .ok (.aload_n 0, 1) := by decide +kernel
theorem dX6_unfilter_50 : decode cX6_unfilter 50 = .ok (.iload 6, 2) := by decide +kernel
theorem dX6_unfilter_52 : decode cX6_unfilter 52 = .ok (.iload_n 2, 1) := by decide +kernel
theorem dX6_unfilter_53 : decode cX6_unfilter 53 = .ok (.isub, 1) := by decide +kernel
theorem dX6_unfilter_54 : decode cX6_unfilter 54 = .ok (.invokevirtual 21, 3) := by decide +kernel
theorem dX6_unfilter_57 : decode cX6_unfilter 57 = .ok (.goto 4, 3) := by decide +kernel
theorem dX6_unfilter_60 : decode cX6_unfilter 60 = .ok (.iconst 0, 1) := by decide +kernel
theorem dX6_unfilter_61 : decode cX6_unfilter 61 = .ok (.istore 8, 2) := by decide +kernel
theorem dX6_unfilter_63 : decode cX6_unfilter 63 = .ok (.iload 5, 2) := by decide +kernel
theorem dX6_unfilter_65 : decode cX6_unfilter 65 = .ok (.iconst 4, 1) := by decide +kernel
theorem dX6_unfilter_66 : decode cX6_unfilter 66 = .ok (.if_icmp .lt 20, 3) := by decide +kernel
theorem dX6_unfilter_69 : decode cX6_unfilter 69 = .ok (.iload_n 1, 1) := by decide +kernel
theorem dX6_unfilter_70 : decode cX6_unfilter 70 = .ok (.ifCond .le 16, 3) := by decide +kernel
theorem dX6_unfilter_73 : decode cX6_unfilter 73 = .ok (.aload_n 0, 1) := by decide +kernel
theorem dX6_unfilter_74 : decode cX6_unfilter 74 = .ok (.iload 6, 2) := by decide +kernel
theorem dX6_unfilter_76 : decode cX6_unfilter 76 = .ok (.iload_n 2, 1) := by decide +kernel
theorem dX6_unfilter_77 : decode cX6_unfilter 77 = .ok (.isub, 1) := by decide +kernel
theorem dX6_unfilter_78 : decode cX6_unfilter 78 = .ok (.iconst 4, 1) := by decide +kernel
theorem dX6_unfilter_79 : decode cX6_unfilter 79 = .ok (.isub, 1) := by decide +kernel
theorem dX6_unfilter_80 : decode cX6_unfilter 80 = .ok (.invokevirtual 21, 3) := by decide +kernel
theorem dX6_unfilter_83 : decode cX6_unfilter 83 = .ok (.goto 4, 3) := by decide +kernel
theorem dX6_unfilter_86 : decode cX6_unfilter 86 = .ok (.iconst 0, 1) := by decide +kernel
theorem dX6_unfilter_87 : decode cX6_unfilter 87 = .ok (.istore 9, 2) := by decide +kernel
theorem dX6_unfilter_89 : decode cX6_unfilter 89 = .ok (.aload_n 0, 1) := by decide +kernel
theorem dX6_unfilter_90 : decode cX6_unfilter 90 = .ok (.getfield 38, 3) := by decide +kernel
theorem dX6_unfilter_93 : decode cX6_unfilter 93 = .ok (.iload 6, 2) := by decide +kernel
theorem dX6_unfilter_95 : decode cX6_unfilter 95 = .ok (.aload_n 0, 1) := by decide +kernel
theorem dX6_unfilter_96 : decode cX6_unfilter 96 = .ok (.iload 6, 2) := by decide +kernel
theorem dX6_unfilter_98 : decode cX6_unfilter 98 = .ok (.invokevirtual 21, 3) := by decide +kernel
theorem dX6_unfilter_101 : decode cX6_unfilter 101 = .ok (.iload_n 3, 1) := by decide +kernel
theorem dX6_unfilter_102 : decode cX6_unfilter 102 = .ok (.iload 7, 2) := by decide +kernel
theorem dX6_unfilter_104 : decode cX6_unfilter 104 = .ok (.iload 8, 2) := by decide +kernel
theorem dX6_unfilter_106 : decode cX6_unfilter 106 = .ok (.iload 9, 2) := by decide +kernel
theorem dX6_unfilter_108 : decode cX6_unfilter 108 = .ok (.invokestatic 42, 3) := by decide +kernel
theorem dX6_unfilter_111 : decode cX6_unfilter 111 = .ok (.iadd, 1) := by decide +kernel
theorem dX6_unfilter_112 : decode cX6_unfilter 112 = .ok (.i2b, 1) := by decide +kernel
theorem dX6_unfilter_113 : decode cX6_unfilter 113 = .ok (.bastore, 1) := by decide +kernel
theorem dX6_unfilter_114 : decode cX6_unfilter 114 = .ok (.iinc 5 1, 3) := by decide +kernel
theorem dX6_unfilter_117 : decode cX6_unfilter 117 = .ok (.goto (-107), 3) := by decide +kernel
theorem dX6_unfilter_120 : decode cX6_unfilter 120 = .ok (.return_, 1) := by decide +kernel
theorem dX6_guess_0 : decode cX6_guess 0 = .ok (.iload_n 0, 1) := by decide +kernel
theorem dX6_guess_1 : decode cX6_guess 1 = .ok (.tableswitch 43 0 3 #[31, 33, 35, 37], 31) := by decide +kernel
theorem dX6_guess_32 : decode cX6_guess 32 = .ok (.iconst 0, 1) := by decide +kernel
theorem dX6_guess_33 : decode cX6_guess 33 = .ok (.ireturn, 1) := by decide +kernel
theorem dX6_guess_34 : decode cX6_guess 34 = .ok (.iload_n 1, 1) := by decide +kernel
theorem dX6_guess_35 : decode cX6_guess 35 = .ok (.ireturn, 1) := by decide +kernel
theorem dX6_guess_36 : decode cX6_guess 36 = .ok (.iload_n 2, 1) := by decide +kernel
theorem dX6_guess_37 : decode cX6_guess 37 = .ok (.ireturn, 1) := by decide +kernel
theorem dX6_guess_38 : decode cX6_guess 38 = .ok (.iload_n 1, 1) := by decide +kernel
theorem dX6_guess_39 : decode cX6_guess 39 = .ok (.iload_n 2, 1) := by decide +kernel
theorem dX6_guess_40 : decode cX6_guess 40 = .ok (.iadd, 1) := by decide +kernel
theorem dX6_guess_41 : decode cX6_guess 41 = .ok (.iconst 2, 1) := by decide +kernel
theorem dX6_guess_42 : decode cX6_guess 42 = .ok (.idiv, 1) := by decide +kernel
theorem dX6_guess_43 : decode cX6_guess 43 = .ok (.ireturn, 1) := by decide +kernel
theorem dX6_guess_44 : decode cX6_guess 44 = .ok (.iload_n 1, 1) := by decide +kernel
theorem dX6_guess_45 : decode cX6_guess 45 = .ok (.iload_n 2, 1) := by decide +kernel
theorem dX6_guess_46 : decode cX6_guess 46 = .ok (.iload_n 3, 1) := by decide +kernel
theorem dX6_guess_47 : decode cX6_guess 47 = .ok (.invokestatic 46, 3) := by decide +kernel
theorem dX6_guess_50 : decode cX6_guess 50 = .ok (.ireturn, 1) := by decide +kernel
theorem dX6_nearest_0 : decode cX6_nearest 0 = .ok (.iload_n 1, 1) := by decide +kernel
theorem dX6_nearest_1 : decode cX6_nearest 1 = .ok (.iload_n 2, 1) := by decide +kernel
theorem dX6_nearest_2 : decode cX6_nearest 2 = .ok (.isub, 1) := by decide +kernel
theorem dX6_nearest_3 : decode cX6_nearest 3 = .ok (.invokestatic 50, 3) := by decide +kernel
theorem dX6_nearest_6 : decode cX6_nearest 6 = .ok (.istore_n 3, 1) := by decide +kernel
theorem dX6_nearest_7 : decode cX6_nearest 7 = .ok (.iload_n 0, 1) := by decide +kernel
theorem dX6_nearest_8 : decode cX6_nearest 8 = .ok (.iload_n 2, 1) := by decide +kernel
theorem dX6_nearest_9 : decode cX6_nearest 9 = .ok (.isub, 1) := by decide +kernel
theorem dX6_nearest_10 : decode cX6_nearest 10 = .ok (.invokestatic 50, 3) := by decide +kernel
theorem dX6_nearest_13 : decode cX6_nearest 13 = .ok (.istore 4, 2) := by decide +kernel
theorem dX6_nearest_15 : decode cX6_nearest 15 = .ok (.iload_n 0, 1) := by decide +kernel
theorem dX6_nearest_16 : decode cX6_nearest 16 = .ok (.iload_n 1, 1) := by decide +kernel
theorem dX6_nearest_17 : decode cX6_nearest 17 = .ok (.iadd, 1) := by decide +kernel
theorem dX6_nearest_18 : decode cX6_nearest 18 = .ok (.iload_n 2, 1) := by decide +kernel
theorem dX6_nearest_19 : decode cX6_nearest 19 = .ok (.isub, 1) := by decide +kernel
theorem dX6_nearest_20 : decode cX6_nearest 20 = .ok (.iload_n 2, 1) := by decide +kernel
theorem dX6_nearest_21 : decode cX6_nearest 21 = .ok (.isub, 1) := by decide +kernel
theorem dX6_nearest_22 : decode cX6_nearest 22 = .ok (.invokestatic 50, 3) := by decide +kernel
theorem dX6_nearest_25 : decode cX6_nearest 25 = .ok (.istore 5, 2) := by decide +kernel
theorem dX6_nearest_27 : decode cX6_nearest 27 = .ok (.iload_n 3, 1) := by decide +kernel
theorem dX6_nearest_28 : decode cX6_nearest 28 = .ok (.iload 4, 2) := by decide +kernel
theorem dX6_nearest_30 : decode cX6_nearest 30 = .ok (.if_icmp .gt 11, 3) := by decide +kernel
theorem dX6_nearest_33 : decode cX6_nearest 33 = .ok (.iload_n 3, 1) := by decide +kernel
theorem dX6_nearest_34 : decode cX6_nearest 34 = .ok (.iload 5, 2) := by decide +kernel
theorem dX6_nearest_36 : decode cX6_nearest 36 = .ok (.if_icmp .gt 5, 3) := by decide +kernel
theorem dX6_nearest_39 : decode cX6_nearest 39 = .ok (.iload_n 0, 1) := by decide +kernel
theorem dX6_nearest_40 : decode cX6_nearest 40 = .ok (.ireturn, 1) := by decide +kernel
theorem dX6_nearest_41 : decode cX6_nearest 41 = .ok (.iload 4, 2) := by decide +kernel
theorem dX6_nearest_43 : decode cX6_nearest 43 = .ok (.iload 5, 2) := by decide +kernel
theorem dX6_nearest_45 : decode cX6_nearest 45 = .ok (.if_icmp .gt 7, 3) := by decide +kernel
theorem dX6_nearest_48 : decode cX6_nearest 48 = .ok (.iload_n 1, 1) := by decide +kernel
theorem dX6_nearest_49 : decode cX6_nearest 49 = .ok (.goto 4, 3) := by decide +kernel
theorem dX6_nearest_52 : decode cX6_nearest 52 = .ok (.iload_n 2, 1) := by decide +kernel
theorem dX6_nearest_53 : decode cX6_nearest 53 = .ok (.ireturn, 1) := by decide +kernel
theorem dX7_init_0 : decode cX7_init 0 = .ok (.aload_n 0, 1) := by decide +kernel
theorem dX7_init_1 : decode cX7_init 1 = .ok (.invokespecial 3, 3) := by decide +kernel
theorem dX7_init_4 : decode cX7_init 4 = .ok (.aload_n 0, 1) := by decide +kernel
theorem dX7_init_5 : decode cX7_init 5 = .ok (.sipush 256, 3) := by decide +kernel
theorem dX7_init_8 : decode cX7_init 8 = .ok (.newarray .int, 2) := by decide +kernel
theorem dX7_init_10 : decode cX7_init 10 = .ok (.putfield 9, 3) := by decide +kernel
theorem dX7_init_13 : decode cX7_init 13 = .ok (.aload_n 0, 1) := by decide +kernel
theorem dX7_init_14 : decode cX7_init 14 = .ok (.sipush 256, 3) := by decide +kernel
theorem dX7_init_17 : decode cX7_init 17 = .ok (.newarray .int, 2) := by decide +kernel
theorem dX7_init_19 : decode cX7_init 19 = .ok (.putfield 15, 3) := by decide +kernel
theorem dX7_init_22 : decode cX7_init 22 = .ok (.return_, 1) := by decide +kernel
theorem dX7_forget_0 : decode cX7_forget 0 = .ok (.aload_n 0, 1) := by decide +kernel
theorem dX7_forget_1 : decode cX7_forget 1 = .ok (.iconst 0, 1) := by decide +kernel
theorem dX7_forget_2 : decode cX7_forget 2 = .ok (.putfield 18, 3) := by decide +kernel
theorem dX7_forget_5 : decode cX7_forget 5 = .ok (.aload_n 0, 1) := by decide +kernel
theorem dX7_forget_6 : decode cX7_forget 6 = .ok (.iconst 0, 1) := by decide +kernel
theorem dX7_forget_7 : decode cX7_forget 7 = .ok (.putfield 22, 3) := by decide +kernel
theorem dX7_forget_10 : decode cX7_forget 10 = .ok (.return_, 1) := by decide +kernel
theorem dX7_has_0 : decode cX7_has 0 = .ok (.iload_n 1, 1) := by decide +kernel
theorem dX7_has_1 : decode cX7_has 1 = .ok (.ifCond .lt 27, 3) := by decide +kernel
theorem dX7_has_4 : decode cX7_has 4 = .ok (.iload_n 1, 1) := by decide +kernel
theorem dX7_has_5 : decode cX7_has 5 = .ok (.aload_n 0, 1) := by decide +kernel
theorem dX7_has_6 : decode cX7_has 6 = .ok (.getfield 18, 3) := by decide +kernel
theorem dX7_has_9 : decode cX7_has 9 = .ok (.if_icmp .ge 19, 3) := by decide +kernel
theorem dX7_has_12 : decode cX7_has 12 = .ok (.iload_n 2, 1) := by decide +kernel
theorem dX7_has_13 : decode cX7_has 13 = .ok (.ifCond .lt 15, 3) := by decide +kernel
theorem dX7_has_16 : decode cX7_has 16 = .ok (.iload_n 2, 1) := by decide +kernel
theorem dX7_has_17 : decode cX7_has 17 = .ok (.aload_n 0, 1) := by decide +kernel
theorem dX7_has_18 : decode cX7_has 18 = .ok (.getfield 22, 3) := by decide +kernel
theorem dX7_has_21 : decode cX7_has 21 = .ok (.if_icmp .ge 7, 3) := by decide +kernel
theorem dX7_has_24 : decode cX7_has 24 = .ok (.iconst 1, 1) := by decide +kernel
theorem dX7_has_25 : decode cX7_has 25 = .ok (.goto 4, 3) := by decide +kernel
theorem dX7_has_28 : decode cX7_has 28 = .ok (.iconst 0, 1) := by decide +kernel
theorem dX7_has_29 : decode cX7_has 29 = .ok (.ireturn, 1) := by decide +kernel
theorem dX7_copy_0 : decode cX7_copy 0 = .ok (.aload_n 0, 1) := by decide +kernel
theorem dX7_copy_1 : decode cX7_copy 1 = .ok (.aload_n 1, 1) := by decide +kernel
theorem dX7_copy_2 : decode cX7_copy 2 = .ok (.getfield 25, 3) := by decide +kernel
theorem dX7_copy_5 : decode cX7_copy 5 = .ok (.putfield 18, 3) := by decide +kernel
theorem dX7_copy_8 : decode cX7_copy 8 = .ok (.aload_n 0, 1) := by decide +kernel
theorem dX7_copy_9 : decode cX7_copy 9 = .ok (.aload_n 1, 1) := by decide +kernel
theorem dX7_copy_10 : decode cX7_copy 10 = .ok (.getfield 28, 3) := by decide +kernel
theorem dX7_copy_13 : decode cX7_copy 13 = .ok (.putfield 22, 3) := by decide +kernel
theorem dX7_copy_16 : decode cX7_copy 16 = .ok (.aload_n 1, 1) := by decide +kernel
theorem dX7_copy_17 : decode cX7_copy 17 = .ok (.getfield 29, 3) := by decide +kernel
theorem dX7_copy_20 : decode cX7_copy 20 = .ok (.iconst 0, 1) := by decide +kernel
theorem dX7_copy_21 : decode cX7_copy 21 = .ok (.aload_n 0, 1) := by decide +kernel
theorem dX7_copy_22 : decode cX7_copy 22 = .ok (.getfield 9, 3) := by decide +kernel
theorem dX7_copy_25 : decode cX7_copy 25 = .ok (.iconst 0, 1) := by decide +kernel
theorem dX7_copy_26 : decode cX7_copy 26 = .ok (.sipush 256, 3) := by decide +kernel
theorem dX7_copy_29 : decode cX7_copy 29 = .ok (.invokestatic 30, 3) := by decide +kernel
theorem dX7_copy_32 : decode cX7_copy 32 = .ok (.return_, 1) := by decide +kernel
theorem dX7_compose_0 : decode cX7_compose 0 = .ok (.aload_n 0, 1) := by decide +kernel
theorem dX7_compose_1 : decode cX7_compose 1 = .ok (.aload_n 1, 1) := by decide +kernel
theorem dX7_compose_2 : decode cX7_compose 2 = .ok (.getfield 36, 3) := by decide +kernel
theorem dX7_compose_5 : decode cX7_compose 5 = .ok (.putfield 18, 3) := by decide +kernel
theorem dX7_compose_8 : decode cX7_compose 8 = .ok (.aload_n 0, 1) := by decide +kernel
theorem dX7_compose_9 : decode cX7_compose 9 = .ok (.aload_n 1, 1) := by decide +kernel
theorem dX7_compose_10 : decode cX7_compose 10 = .ok (.getfield 39, 3) := by decide +kernel
theorem dX7_compose_13 : decode cX7_compose 13 = .ok (.putfield 22, 3) := by decide +kernel
theorem dX7_compose_16 : decode cX7_compose 16 = .ok (.aload_n 0, 1) := by decide +kernel
theorem dX7_compose_17 : decode cX7_compose 17 = .ok (.getfield 9, 3) := by decide +kernel
theorem dX7_compose_20 : decode cX7_compose 20 = .ok (.iconst 0, 1) := by decide +kernel
theorem dX7_compose_21 : decode cX7_compose 21 = .ok (.invokestatic 40, 3) := by decide +kernel
theorem dX7_compose_24 : decode cX7_compose 24 = .ok (.iconst 0, 1) := by decide +kernel
theorem dX7_compose_25 : decode cX7_compose 25 = .ok (.istore_n 3, 1) := by decide +kernel
theorem dX7_compose_26 : decode cX7_compose 26 = .ok (.iload_n 3, 1) := by decide +kernel
theorem dX7_compose_27 : decode cX7_compose 27 = .ok (.iload_n 2, 1) := by decide +kernel
theorem dX7_compose_28 : decode cX7_compose 28 = .ok (.if_icmp .ge 51, 3) := by decide +kernel
theorem dX7_compose_31 : decode cX7_compose 31 = .ok (.iload_n 3, 1) := by decide +kernel
theorem dX7_compose_32 : decode cX7_compose 32 = .ok (.bipush 8, 2) := by decide +kernel
theorem dX7_compose_34 : decode cX7_compose 34 = .ok (.if_icmp .ge 45, 3) := by decide +kernel
theorem dX7_compose_37 : decode cX7_compose 37 = .ok (.aload_n 1, 1) := by decide +kernel
theorem dX7_compose_38 : decode cX7_compose 38 = .ok (.getfield 46, 3) := by decide +kernel
theorem dX7_compose_41 : decode cX7_compose 41 = .ok (.iload_n 3, 1) := by decide +kernel
theorem dX7_compose_42 : decode cX7_compose 42 = .ok (.aaload, 1) := by decide +kernel
theorem dX7_compose_43 : decode cX7_compose 43 = .ok (.astore 4, 2) := by decide +kernel
theorem dX7_compose_45 : decode cX7_compose 45 = .ok (.aload_n 0, 1) := by decide +kernel
theorem dX7_compose_46 : decode cX7_compose 46 = .ok (.getfield 9, 3) := by decide +kernel
theorem dX7_compose_49 : decode cX7_compose 49 = .ok (.iconst 0, 1) := by decide +kernel
theorem dX7_compose_50 : decode cX7_compose 50 = .ok (.aload_n 0, 1) := by decide +kernel
theorem dX7_compose_51 : decode cX7_compose 51 = .ok (.getfield 15, 3) := by decide +kernel
theorem dX7_compose_54 : decode cX7_compose 54 = .ok (.iconst 0, 1) := by decide +kernel
theorem dX7_compose_55 : decode cX7_compose 55 = .ok (.sipush 256, 3) := by decide +kernel
theorem dX7_compose_58 : decode cX7_compose 58 = .ok (.invokestatic 30, 3) := by decide +kernel
theorem dX7_compose_61 : decode cX7_compose 61 = .ok (.aload_n 0, 1) := by decide +kernel
theorem dX7_compose_62 : decode cX7_compose 62 = .ok (.aload 4, 2) := by decide +kernel
theorem dX7_compose_64 : decode cX7_compose 64 = .ok (.invokevirtual 50, 3) := by decide +kernel
theorem dX7_compose_67 : decode cX7_compose 67 = .ok (.aload_n 0, 1) := by decide +kernel
theorem dX7_compose_68 : decode cX7_compose 68 = .ok (.aload 4, 2) := by decide +kernel
theorem dX7_compose_70 : decode cX7_compose 70 = .ok (.invokevirtual 54, 3) := by decide +kernel
theorem dX7_compose_73 : decode cX7_compose 73 = .ok (.iinc 3 1, 3) := by decide +kernel
theorem dX7_compose_76 : decode cX7_compose 76 = .ok (.goto (-50), 3) := by decide +kernel
theorem dX7_compose_79 : decode cX7_compose 79 = .ok (.aload_n 0, 1) := by decide +kernel
theorem dX7_compose_80 : decode cX7_compose 80 = .ok (.aload_n 1, 1) := by decide +kernel
theorem dX7_compose_81 : decode cX7_compose 81 = .ok (.getfield 46, 3) := by decide +kernel
theorem dX7_compose_84 : decode cX7_compose 84 = .ok (.iload_n 2, 1) := by decide +kernel
theorem dX7_compose_85 : decode cX7_compose 85 = .ok (.aaload, 1) := by decide +kernel
theorem dX7_compose_86 : decode cX7_compose 86 = .ok (.invokevirtual 50, 3) := by decide +kernel
theorem dX7_compose_89 : decode cX7_compose 89 = .ok (.return_, 1) := by decide +kernel
theorem dX7_draw_0 : decode cX7_draw 0 = .ok (.iconst 0, 1) := by decide +kernel
theorem dX7_draw_1 : decode cX7_draw 1 = .ok (.istore_n 2, 1) := by decide +kernel
theorem dX7_draw_2 : decode cX7_draw 2 = .ok (.iload_n 2, 1) := by decide +kernel
theorem dX7_draw_3 : decode cX7_draw 3 = .ok (.aload_n 1, 1) := by decide +kernel
theorem dX7_draw_4 : decode cX7_draw 4 = .ok (.getfield 28, 3) := by decide +kernel
theorem dX7_draw_7 : decode cX7_draw 7 = .ok (.if_icmp .ge 91, 3) := by decide +kernel
theorem dX7_draw_10 : decode cX7_draw 10 = .ok (.iconst 0, 1) := by decide +kernel
theorem dX7_draw_11 : decode cX7_draw 11 = .ok (.istore_n 3, 1) := by decide +kernel
theorem dX7_draw_12 : decode cX7_draw 12 = .ok (.iload_n 3, 1) := by decide +kernel
theorem dX7_draw_13 : decode cX7_draw 13 = .ok (.aload_n 1, 1) := by decide +kernel
theorem dX7_draw_14 : decode cX7_draw 14 = .ok (.getfield 25, 3) := by decide +kernel
theorem dX7_draw_17 : decode cX7_draw 17 = .ok (.if_icmp .ge 75, 3) := by decide +kernel
theorem dX7_draw_20 : decode cX7_draw 20 = .ok (.aload_n 1, 1) := by decide +kernel
theorem dX7_draw_21 : decode cX7_draw 21 = .ok (.getfield 57, 3) := by decide +kernel
theorem dX7_draw_24 : decode cX7_draw 24 = .ok (.iload_n 2, 1) := by decide +kernel
theorem dX7_draw_25 : decode cX7_draw 25 = .ok (.iadd, 1) := by decide +kernel
theorem dX7_draw_26 : decode cX7_draw 26 = .ok (.aload_n 0, 1) := by decide +kernel
theorem dX7_draw_27 : decode cX7_draw 27 = .ok (.getfield 18, 3) := by decide +kernel
theorem dX7_draw_30 : decode cX7_draw 30 = .ok (.imul, 1) := by decide +kernel
theorem dX7_draw_31 : decode cX7_draw 31 = .ok (.aload_n 1, 1) := by decide +kernel
theorem dX7_draw_32 : decode cX7_draw 32 = .ok (.getfield 60, 3) := by decide +kernel
theorem dX7_draw_35 : decode cX7_draw 35 = .ok (.iadd, 1) := by decide +kernel
theorem dX7_draw_36 : decode cX7_draw 36 = .ok (.iload_n 3, 1) := by decide +kernel
theorem dX7_draw_37 : decode cX7_draw 37 = .ok (.iadd, 1) := by decide +kernel
theorem dX7_draw_38 : decode cX7_draw 38 = .ok (.istore 4, 2) := by decide +kernel
theorem dX7_draw_40 : decode cX7_draw 40 = .ok (.aload_n 1, 1) := by decide +kernel
theorem dX7_draw_41 : decode cX7_draw 41 = .ok (.getfield 29, 3) := by decide +kernel
theorem dX7_draw_44 : decode cX7_draw 44 = .ok (.iload_n 2, 1) := by decide +kernel
theorem dX7_draw_45 : decode cX7_draw 45 = .ok (.aload_n 1, 1) := by decide +kernel
theorem dX7_draw_46 : decode cX7_draw 46 = .ok (.getfield 25, 3) := by decide +kernel
theorem dX7_draw_49 : decode cX7_draw 49 = .ok (.imul, 1) := by decide +kernel
theorem dX7_draw_50 : decode cX7_draw 50 = .ok (.iload_n 3, 1) := by decide +kernel
theorem dX7_draw_51 : decode cX7_draw 51 = .ok (.iadd, 1) := by decide +kernel
theorem dX7_draw_52 : decode cX7_draw 52 = .ok (.iaload, 1) := by decide +kernel
theorem dX7_draw_53 : decode cX7_draw 53 = .ok (.istore 5, 2) := by decide +kernel
theorem dX7_draw_55 : decode cX7_draw 55 = .ok (.aload_n 0, 1) := by decide +kernel
theorem dX7_draw_56 : decode cX7_draw 56 = .ok (.getfield 9, 3) := by decide +kernel
theorem dX7_draw_59 : decode cX7_draw 59 = .ok (.iload 4, 2) := by decide +kernel
theorem dX7_draw_61 : decode cX7_draw 61 = .ok (.aload_n 1, 1) := by decide +kernel
theorem dX7_draw_62 : decode cX7_draw 62 = .ok (.getfield 63, 3) := by decide +kernel
theorem dX7_draw_65 : decode cX7_draw 65 = .ok (.ifCond .ne 8, 3) := by decide +kernel
theorem dX7_draw_68 : decode cX7_draw 68 = .ok (.iload 5, 2) := by decide +kernel
theorem dX7_draw_70 : decode cX7_draw 70 = .ok (.goto 15, 3) := by decide +kernel
theorem dX7_draw_73 : decode cX7_draw 73 = .ok (.iload 5, 2) := by decide +kernel
theorem dX7_draw_75 : decode cX7_draw 75 = .ok (.aload_n 0, 1) := by decide +kernel
theorem dX7_draw_76 : decode cX7_draw 76 = .ok (.getfield 9, 3) := by decide +kernel
theorem dX7_draw_79 : decode cX7_draw 79 = .ok (.iload 4, 2) := by decide +kernel
theorem dX7_draw_81 : decode cX7_draw 81 = .ok (.iaload, 1) := by decide +kernel
theorem dX7_draw_82 : decode cX7_draw 82 = .ok (.invokestatic 66, 3) := by decide +kernel
theorem dX7_draw_85 : decode cX7_draw 85 = .ok (.iastore, 1) := by decide +kernel
theorem dX7_draw_86 : decode cX7_draw 86 = .ok (.iinc 3 1, 3) := by decide +kernel
theorem dX7_draw_89 : decode cX7_draw 89 = .ok (.goto (-77), 3) := by decide +kernel
theorem dX7_draw_92 : decode cX7_draw 92 = .ok (.iinc 2 1, 3) := by decide +kernel
theorem dX7_draw_95 : decode cX7_draw 95 = .ok (.goto (-93), 3) := by decide +kernel
theorem dX7_draw_98 : decode cX7_draw 98 = .ok (.return_, 1) := by decide +kernel
theorem dX7_dispose_0 : decode cX7_dispose 0 = .ok (.aload_n 1, 1) := by decide +kernel
theorem dX7_dispose_1 : decode cX7_dispose 1 = .ok (.getfield 70, 3) := by decide +kernel
theorem dX7_dispose_4 : decode cX7_dispose 4 = .ok (.iconst 2, 1) := by decide +kernel
theorem dX7_dispose_5 : decode cX7_dispose 5 = .ok (.if_icmp .ne 22, 3) := by decide +kernel
theorem dX7_dispose_8 : decode cX7_dispose 8 = .ok (.aload_n 0, 1) := by decide +kernel
theorem dX7_dispose_9 : decode cX7_dispose 9 = .ok (.getfield 15, 3) := by decide +kernel
theorem dX7_dispose_12 : decode cX7_dispose 12 = .ok (.iconst 0, 1) := by decide +kernel
theorem dX7_dispose_13 : decode cX7_dispose 13 = .ok (.aload_n 0, 1) := by decide +kernel
theorem dX7_dispose_14 : decode cX7_dispose 14 = .ok (.getfield 9, 3) := by decide +kernel
theorem dX7_dispose_17 : decode cX7_dispose 17 = .ok (.iconst 0, 1) := by decide +kernel
theorem dX7_dispose_18 : decode cX7_dispose 18 = .ok (.sipush 256, 3) := by decide +kernel
theorem dX7_dispose_21 : decode cX7_dispose 21 = .ok (.invokestatic 30, 3) := by decide +kernel
theorem dX7_dispose_24 : decode cX7_dispose 24 = .ok (.goto 72, 3) := by decide +kernel
theorem dX7_dispose_27 : decode cX7_dispose 27 = .ok (.aload_n 1, 1) := by decide +kernel
theorem dX7_dispose_28 : decode cX7_dispose 28 = .ok (.getfield 70, 3) := by decide +kernel
theorem dX7_dispose_31 : decode cX7_dispose 31 = .ok (.iconst 1, 1) := by decide +kernel
theorem dX7_dispose_32 : decode cX7_dispose 32 = .ok (.if_icmp .ne 64, 3) := by decide +kernel
theorem dX7_dispose_35 : decode cX7_dispose 35 = .ok (.iconst 0, 1) := by decide +kernel
theorem dX7_dispose_36 : decode cX7_dispose 36 = .ok (.istore_n 2, 1) := by decide +kernel
theorem dX7_dispose_37 : decode cX7_dispose 37 = .ok (.iload_n 2, 1) := by decide +kernel
theorem dX7_dispose_38 : decode cX7_dispose 38 = .ok (.aload_n 1, 1) := by decide +kernel
theorem dX7_dispose_39 : decode cX7_dispose 39 = .ok (.getfield 28, 3) := by decide +kernel
theorem dX7_dispose_42 : decode cX7_dispose 42 = .ok (.if_icmp .ge 54, 3) := by decide +kernel
theorem dX7_dispose_45 : decode cX7_dispose 45 = .ok (.aload_n 1, 1) := by decide +kernel
theorem dX7_dispose_46 : decode cX7_dispose 46 = .ok (.getfield 57, 3) := by decide +kernel
theorem dX7_dispose_49 : decode cX7_dispose 49 = .ok (.iload_n 2, 1) := by decide +kernel
theorem dX7_dispose_50 : decode cX7_dispose 50 = .ok (.iadd, 1) := by decide +kernel
theorem dX7_dispose_51 : decode cX7_dispose 51 = .ok (.aload_n 0, 1) := by decide +kernel
theorem dX7_dispose_52 : decode cX7_dispose 52 = .ok (.getfield 18, 3) := by decide +kernel
theorem dX7_dispose_55 : decode cX7_dispose 55 = .ok (.imul, 1) := by decide +kernel
theorem dX7_dispose_56 : decode cX7_dispose 56 = .ok (.aload_n 1, 1) := by decide +kernel
theorem dX7_dispose_57 : decode cX7_dispose 57 = .ok (.getfield 60, 3) := by decide +kernel
theorem dX7_dispose_60 : decode cX7_dispose 60 = .ok (.iadd, 1) := by decide +kernel
theorem dX7_dispose_61 : decode cX7_dispose 61 = .ok (.istore_n 3, 1) := by decide +kernel
theorem dX7_dispose_62 : decode cX7_dispose 62 = .ok (.iconst 0, 1) := by decide +kernel
theorem dX7_dispose_63 : decode cX7_dispose 63 = .ok (.istore 4, 2) := by decide +kernel
theorem dX7_dispose_65 : decode cX7_dispose 65 = .ok (.iload 4, 2) := by decide +kernel
theorem dX7_dispose_67 : decode cX7_dispose 67 = .ok (.aload_n 1, 1) := by decide +kernel
theorem dX7_dispose_68 : decode cX7_dispose 68 = .ok (.getfield 25, 3) := by decide +kernel
theorem dX7_dispose_71 : decode cX7_dispose 71 = .ok (.if_icmp .ge 19, 3) := by decide +kernel
theorem dX7_dispose_74 : decode cX7_dispose 74 = .ok (.aload_n 0, 1) := by decide +kernel
theorem dX7_dispose_75 : decode cX7_dispose 75 = .ok (.getfield 9, 3) := by decide +kernel
theorem dX7_dispose_78 : decode cX7_dispose 78 = .ok (.iload_n 3, 1) := by decide +kernel
theorem dX7_dispose_79 : decode cX7_dispose 79 = .ok (.iload 4, 2) := by decide +kernel
theorem dX7_dispose_81 : decode cX7_dispose 81 = .ok (.iadd, 1) := by decide +kernel
theorem dX7_dispose_82 : decode cX7_dispose 82 = .ok (.iconst 0, 1) := by decide +kernel
theorem dX7_dispose_83 : decode cX7_dispose 83 = .ok (.iastore, 1) := by decide +kernel
theorem dX7_dispose_84 : decode cX7_dispose 84 = .ok (.iinc 4 1, 3) := by decide +kernel
theorem dX7_dispose_87 : decode cX7_dispose 87 = .ok (.goto (-22), 3) := by decide +kernel
theorem dX7_dispose_90 : decode cX7_dispose 90 = .ok (.iinc 2 1, 3) := by decide +kernel
theorem dX7_dispose_93 : decode cX7_dispose 93 = .ok (.goto (-56), 3) := by decide +kernel
theorem dX7_dispose_96 : decode cX7_dispose 96 = .ok (.return_, 1) := by decide +kernel
theorem dX7_blended_0 : decode cX7_blended 0 = .ok (.iload_n 0, 1) := by decide +kernel
theorem dX7_blended_1 : decode cX7_blended 1 = .ok (.sipush 255, 3) := by decide +kernel
theorem dX7_blended_4 : decode cX7_blended 4 = .ok (.iand, 1) := by decide +kernel
theorem dX7_blended_5 : decode cX7_blended 5 = .ok (.istore_n 2, 1) := by decide +kernel
theorem dX7_blended_6 : decode cX7_blended 6 = .ok (.iload_n 2, 1) := by decide +kernel
theorem dX7_blended_7 : decode cX7_blended 7 = .ok (.ifCond .eq 10, 3) := by decide +kernel
theorem dX7_blended_10 : decode cX7_blended 10 = .ok (.iload_n 2, 1) := by decide +kernel
theorem dX7_blended_11 : decode cX7_blended 11 = .ok (.sipush 255, 3) := by decide +kernel
theorem dX7_blended_14 : decode cX7_blended 14 = .ok (.if_icmp .ne 13, 3) := by decide +kernel
theorem dX7_blended_17 : decode cX7_blended 17 = .ok (.iload_n 2, 1) := by decide +kernel
theorem dX7_blended_18 : decode cX7_blended 18 = .ok (.ifCond .ne 7, 3) := by decide +kernel
theorem dX7_blended_21 : decode cX7_blended 21 = .ok (.iload_n 1, 1) := by decide +kernel
theorem dX7_blended_22 : decode cX7_blended 22 = .ok (.goto 4, 3) := by decide +kernel
theorem dX7_blended_25 : decode cX7_blended 25 = .ok (.iload_n 0, 1) := by decide +kernel
theorem dX7_blended_26 : decode cX7_blended 26 = .ok (.ireturn, 1) := by decide +kernel
theorem dX7_blended_27 : decode cX7_blended 27 = .ok (.iload_n 1, 1) := by decide +kernel
theorem dX7_blended_28 : decode cX7_blended 28 = .ok (.sipush 255, 3) := by decide +kernel
theorem dX7_blended_31 : decode cX7_blended 31 = .ok (.iand, 1) := by decide +kernel
theorem dX7_blended_32 : decode cX7_blended 32 = .ok (.istore_n 3, 1) := by decide +kernel
theorem dX7_blended_33 : decode cX7_blended 33 = .ok (.iload_n 2, 1) := by decide +kernel
theorem dX7_blended_34 : decode cX7_blended 34 = .ok (.sipush 255, 3) := by decide +kernel
theorem dX7_blended_37 : decode cX7_blended 37 = .ok (.imul, 1) := by decide +kernel
theorem dX7_blended_38 : decode cX7_blended 38 = .ok (.sipush 255, 3) := by decide +kernel
theorem dX7_blended_41 : decode cX7_blended 41 = .ok (.iload_n 2, 1) := by decide +kernel
theorem dX7_blended_42 : decode cX7_blended 42 = .ok (.isub, 1) := by decide +kernel
theorem dX7_blended_43 : decode cX7_blended 43 = .ok (.iload_n 3, 1) := by decide +kernel
theorem dX7_blended_44 : decode cX7_blended 44 = .ok (.imul, 1) := by decide +kernel
theorem dX7_blended_45 : decode cX7_blended 45 = .ok (.iadd, 1) := by decide +kernel
theorem dX7_blended_46 : decode cX7_blended 46 = .ok (.istore 4, 2) := by decide +kernel
theorem dX7_blended_48 : decode cX7_blended 48 = .ok (.iload 4, 2) := by decide +kernel
theorem dX7_blended_50 : decode cX7_blended 50 = .ok (.sipush 255, 3) := by decide +kernel
theorem dX7_blended_53 : decode cX7_blended 53 = .ok (.idiv, 1) := by decide +kernel
theorem dX7_blended_54 : decode cX7_blended 54 = .ok (.istore 5, 2) := by decide +kernel
theorem dX7_blended_56 : decode cX7_blended 56 = .ok (.bipush 8, 2) := by decide +kernel
theorem dX7_blended_58 : decode cX7_blended 58 = .ok (.istore 6, 2) := by decide +kernel
theorem dX7_blended_60 : decode cX7_blended 60 = .ok (.iload 6, 2) := by decide +kernel
theorem dX7_blended_62 : decode cX7_blended 62 = .ok (.bipush 24, 2) := by decide +kernel
theorem dX7_blended_64 : decode cX7_blended 64 = .ok (.if_icmp .gt 59, 3) := by decide +kernel
theorem dX7_blended_67 : decode cX7_blended 67 = .ok (.iload_n 0, 1) := by decide +kernel
theorem dX7_blended_68 : decode cX7_blended 68 = .ok (.iload 6, 2) := by decide +kernel
theorem dX7_blended_70 : decode cX7_blended 70 = .ok (.iushr, 1) := by decide +kernel
theorem dX7_blended_71 : decode cX7_blended 71 = .ok (.sipush 255, 3) := by decide +kernel
theorem dX7_blended_74 : decode cX7_blended 74 = .ok (.iand, 1) := by decide +kernel
theorem dX7_blended_75 : decode cX7_blended 75 = .ok (.iload_n 2, 1) := by decide +kernel
theorem dX7_blended_76 : decode cX7_blended 76 = .ok (.imul, 1) := by decide +kernel
theorem dX7_blended_77 : decode cX7_blended 77 = .ok (.sipush 255, 3) := by decide +kernel
