theorem dX10_closeChunk_4 : decode cX10_closeChunk 4 = .ok (.aload_n 0, 1) := by decide +kernel
theorem dX10_closeChunk_5 : decode cX10_closeChunk 5 = .ok (.getfield 20, 3) := by decide +kernel
theorem dX10_closeChunk_8 : decode cX10_closeChunk 8 = .ok (.aload_n 0, 1) := by decide +kernel
theorem dX10_closeChunk_9 : decode cX10_closeChunk 9 = .ok (.getfield 14, 3) := by decide +kernel
theorem dX10_closeChunk_12 : decode cX10_closeChunk 12 = .ok (.aload_n 0, 1) := by decide +kernel
theorem dX10_closeChunk_13 : decode cX10_closeChunk 13 = .ok (.getfield 82, 3) := by decide +kernel
theorem dX10_closeChunk_16 : decode cX10_closeChunk 16 = .ok (.aload_n 0, 1) := by decide +kernel
theorem dX10_closeChunk_17 : decode cX10_closeChunk 17 = .ok (.getfield 14, 3) := by decide +kernel
theorem dX10_closeChunk_20 : decode cX10_closeChunk 20 = .ok (.getfield 79, 3) := by decide +kernel
theorem dX10_closeChunk_23 : decode cX10_closeChunk 23 = .ok (.invokevirtual 85, 3) := by decide +kernel
theorem dX10_closeChunk_26 : decode cX10_closeChunk 26 = .ok (.invokevirtual 32, 3) := by decide +kernel
theorem dX10_closeChunk_29 : decode cX10_closeChunk 29 = .ok (.return_, 1) := by decide +kernel
theorem dX10_addHead_0 : decode cX10_addHead 0 = .ok (.aload_n 0, 1) := by decide +kernel
theorem dX10_addHead_1 : decode cX10_addHead 1 = .ok (.bipush 13, 2) := by decide +kernel
theorem dX10_addHead_3 : decode cX10_addHead 3 = .ok (.ldc 91, 2) := by decide +kernel
theorem dX10_addHead_5 : decode cX10_addHead 5 = .ok (.invokevirtual 41, 3) := by decide +kernel
theorem dX10_addHead_8 : decode cX10_addHead 8 = .ok (.aload_n 0, 1) := by decide +kernel
theorem dX10_addHead_9 : decode cX10_addHead 9 = .ok (.getfield 14, 3) := by decide +kernel
theorem dX10_addHead_12 : decode cX10_addHead 12 = .ok (.aload_n 1, 1) := by decide +kernel
theorem dX10_addHead_13 : decode cX10_addHead 13 = .ok (.getfield 92, 3) := by decide +kernel
theorem dX10_addHead_16 : decode cX10_addHead 16 = .ok (.invokevirtual 32, 3) := by decide +kernel
theorem dX10_addHead_19 : decode cX10_addHead 19 = .ok (.aload_n 0, 1) := by decide +kernel
theorem dX10_addHead_20 : decode cX10_addHead 20 = .ok (.getfield 14, 3) := by decide +kernel
theorem dX10_addHead_23 : decode cX10_addHead 23 = .ok (.aload_n 1, 1) := by decide +kernel
theorem dX10_addHead_24 : decode cX10_addHead 24 = .ok (.getfield 95, 3) := by decide +kernel
theorem dX10_addHead_27 : decode cX10_addHead 27 = .ok (.invokevirtual 32, 3) := by decide +kernel
theorem dX10_addHead_30 : decode cX10_addHead 30 = .ok (.aload_n 0, 1) := by decide +kernel
theorem dX10_addHead_31 : decode cX10_addHead 31 = .ok (.getfield 14, 3) := by decide +kernel
theorem dX10_addHead_34 : decode cX10_addHead 34 = .ok (.ldc 98, 2) := by decide +kernel
theorem dX10_addHead_36 : decode cX10_addHead 36 = .ok (.invokevirtual 32, 3) := by decide +kernel
theorem dX10_addHead_39 : decode cX10_addHead 39 = .ok (.aload_n 0, 1) := by decide +kernel
theorem dX10_addHead_40 : decode cX10_addHead 40 = .ok (.getfield 14, 3) := by decide +kernel
theorem dX10_addHead_43 : decode cX10_addHead 43 = .ok (.iconst 0, 1) := by decide +kernel
theorem dX10_addHead_44 : decode cX10_addHead 44 = .ok (.invokevirtual 99, 3) := by decide +kernel
theorem dX10_addHead_47 : decode cX10_addHead 47 = .ok (.aload_n 0, 1) := by decide +kernel
theorem dX10_addHead_48 : decode cX10_addHead 48 = .ok (.invokevirtual 53, 3) := by decide +kernel
theorem dX10_addHead_51 : decode cX10_addHead 51 = .ok (.return_, 1) := by decide +kernel
theorem dX10_addSerial_0 : decode cX10_addSerial 0 = .ok (.aload_n 0, 1) := by decide +kernel
theorem dX10_addSerial_1 : decode cX10_addSerial 1 = .ok (.getfield 14, 3) := by decide +kernel
theorem dX10_addSerial_4 : decode cX10_addSerial 4 = .ok (.aload_n 0, 1) := by decide +kernel
theorem dX10_addSerial_5 : decode cX10_addSerial 5 = .ok (.getfield 27, 3) := by decide +kernel
theorem dX10_addSerial_8 : decode cX10_addSerial 8 = .ok (.invokevirtual 32, 3) := by decide +kernel
theorem dX10_addSerial_11 : decode cX10_addSerial 11 = .ok (.aload_n 0, 1) := by decide +kernel
theorem dX10_addSerial_12 : decode cX10_addSerial 12 = .ok (.dup, 1) := by decide +kernel
theorem dX10_addSerial_13 : decode cX10_addSerial 13 = .ok (.getfield 27, 3) := by decide +kernel
theorem dX10_addSerial_16 : decode cX10_addSerial 16 = .ok (.iconst 1, 1) := by decide +kernel
theorem dX10_addSerial_17 : decode cX10_addSerial 17 = .ok (.iadd, 1) := by decide +kernel
theorem dX10_addSerial_18 : decode cX10_addSerial 18 = .ok (.putfield 27, 3) := by decide +kernel
theorem dX10_addSerial_21 : decode cX10_addSerial 21 = .ok (.return_, 1) := by decide +kernel
theorem dX10_addControl_0 : decode cX10_addControl 0 = .ok (.aload_n 0, 1) := by decide +kernel
theorem dX10_addControl_1 : decode cX10_addControl 1 = .ok (.bipush 26, 2) := by decide +kernel
theorem dX10_addControl_3 : decode cX10_addControl 3 = .ok (.ldc 102, 2) := by decide +kernel
theorem dX10_addControl_5 : decode cX10_addControl 5 = .ok (.invokevirtual 41, 3) := by decide +kernel
theorem dX10_addControl_8 : decode cX10_addControl 8 = .ok (.aload_n 0, 1) := by decide +kernel
theorem dX10_addControl_9 : decode cX10_addControl 9 = .ok (.invokevirtual 103, 3) := by decide +kernel
theorem dX10_addControl_12 : decode cX10_addControl 12 = .ok (.aload_n 0, 1) := by decide +kernel
theorem dX10_addControl_13 : decode cX10_addControl 13 = .ok (.getfield 14, 3) := by decide +kernel
theorem dX10_addControl_16 : decode cX10_addControl 16 = .ok (.aload_n 1, 1) := by decide +kernel
theorem dX10_addControl_17 : decode cX10_addControl 17 = .ok (.getfield 106, 3) := by decide +kernel
theorem dX10_addControl_20 : decode cX10_addControl 20 = .ok (.invokevirtual 32, 3) := by decide +kernel
theorem dX10_addControl_23 : decode cX10_addControl 23 = .ok (.aload_n 0, 1) := by decide +kernel
theorem dX10_addControl_24 : decode cX10_addControl 24 = .ok (.getfield 14, 3) := by decide +kernel
theorem dX10_addControl_27 : decode cX10_addControl 27 = .ok (.aload_n 1, 1) := by decide +kernel
theorem dX10_addControl_28 : decode cX10_addControl 28 = .ok (.getfield 109, 3) := by decide +kernel
theorem dX10_addControl_31 : decode cX10_addControl 31 = .ok (.invokevirtual 32, 3) := by decide +kernel
theorem dX10_addControl_34 : decode cX10_addControl 34 = .ok (.aload_n 0, 1) := by decide +kernel
theorem dX10_addControl_35 : decode cX10_addControl 35 = .ok (.getfield 14, 3) := by decide +kernel
theorem dX10_addControl_38 : decode cX10_addControl 38 = .ok (.aload_n 1, 1) := by decide +kernel
theorem dX10_addControl_39 : decode cX10_addControl 39 = .ok (.getfield 110, 3) := by decide +kernel
theorem dX10_addControl_42 : decode cX10_addControl 42 = .ok (.invokevirtual 32, 3) := by decide +kernel
theorem dX10_addControl_45 : decode cX10_addControl 45 = .ok (.aload_n 0, 1) := by decide +kernel
theorem dX10_addControl_46 : decode cX10_addControl 46 = .ok (.getfield 14, 3) := by decide +kernel
theorem dX10_addControl_49 : decode cX10_addControl 49 = .ok (.aload_n 1, 1) := by decide +kernel
theorem dX10_addControl_50 : decode cX10_addControl 50 = .ok (.getfield 113, 3) := by decide +kernel
theorem dX10_addControl_53 : decode cX10_addControl 53 = .ok (.invokevirtual 32, 3) := by decide +kernel
theorem dX10_addControl_56 : decode cX10_addControl 56 = .ok (.aload_n 0, 1) := by decide +kernel
theorem dX10_addControl_57 : decode cX10_addControl 57 = .ok (.getfield 14, 3) := by decide +kernel
theorem dX10_addControl_60 : decode cX10_addControl 60 = .ok (.ldc 116, 2) := by decide +kernel
theorem dX10_addControl_62 : decode cX10_addControl 62 = .ok (.invokevirtual 32, 3) := by decide +kernel
theorem dX10_addControl_65 : decode cX10_addControl 65 = .ok (.aload_n 0, 1) := by decide +kernel
theorem dX10_addControl_66 : decode cX10_addControl 66 = .ok (.getfield 14, 3) := by decide +kernel
theorem dX10_addControl_69 : decode cX10_addControl 69 = .ok (.aload_n 1, 1) := by decide +kernel
theorem dX10_addControl_70 : decode cX10_addControl 70 = .ok (.getfield 117, 3) := by decide +kernel
theorem dX10_addControl_73 : decode cX10_addControl 73 = .ok (.invokevirtual 99, 3) := by decide +kernel
theorem dX10_addControl_76 : decode cX10_addControl 76 = .ok (.aload_n 0, 1) := by decide +kernel
theorem dX10_addControl_77 : decode cX10_addControl 77 = .ok (.getfield 14, 3) := by decide +kernel
theorem dX10_addControl_80 : decode cX10_addControl 80 = .ok (.aload_n 1, 1) := by decide +kernel
theorem dX10_addControl_81 : decode cX10_addControl 81 = .ok (.getfield 120, 3) := by decide +kernel
theorem dX10_addControl_84 : decode cX10_addControl 84 = .ok (.invokevirtual 99, 3) := by decide +kernel
theorem dX10_addControl_87 : decode cX10_addControl 87 = .ok (.aload_n 0, 1) := by decide +kernel
theorem dX10_addControl_88 : decode cX10_addControl 88 = .ok (.invokevirtual 53, 3) := by decide +kernel
theorem dX10_addControl_91 : decode cX10_addControl 91 = .ok (.return_, 1) := by decide +kernel
theorem dX10_addDefaultData_0 : decode cX10_addDefaultData 0 = .ok (.aload_n 0, 1) := by decide +kernel
theorem dX10_addDefaultData_1 : decode cX10_addDefaultData 1 = .ok (.bipush 11, 2) := by decide +kernel
theorem dX10_addDefaultData_3 : decode cX10_addDefaultData 3 = .ok (.aload_n 1, 1) := by decide +kernel
theorem dX10_addDefaultData_4 : decode cX10_addDefaultData 4 = .ok (.invokestatic 123, 3) := by decide +kernel
theorem dX10_addDefaultData_7 : decode cX10_addDefaultData 7 = .ok (.iadd, 1) := by decide +kernel
theorem dX10_addDefaultData_8 : decode cX10_addDefaultData 8 = .ok (.ldc 127, 2) := by decide +kernel
theorem dX10_addDefaultData_10 : decode cX10_addDefaultData 10 = .ok (.invokevirtual 41, 3) := by decide +kernel
theorem dX10_addDefaultData_13 : decode cX10_addDefaultData 13 = .ok (.aload_n 0, 1) := by decide +kernel
theorem dX10_addDefaultData_14 : decode cX10_addDefaultData 14 = .ok (.aload_n 1, 1) := by decide +kernel
theorem dX10_addDefaultData_15 : decode cX10_addDefaultData 15 = .ok (.invokevirtual 128, 3) := by decide +kernel
theorem dX10_addDefaultData_18 : decode cX10_addDefaultData 18 = .ok (.aload_n 0, 1) := by decide +kernel
theorem dX10_addDefaultData_19 : decode cX10_addDefaultData 19 = .ok (.invokevirtual 53, 3) := by decide +kernel
theorem dX10_addDefaultData_22 : decode cX10_addDefaultData 22 = .ok (.return_, 1) := by decide +kernel
theorem dX10_addFrameData_0 : decode cX10_addFrameData 0 = .ok (.aload_n 0, 1) := by decide +kernel
theorem dX10_addFrameData_1 : decode cX10_addFrameData 1 = .ok (.bipush 15, 2) := by decide +kernel
theorem dX10_addFrameData_3 : decode cX10_addFrameData 3 = .ok (.aload_n 1, 1) := by decide +kernel
theorem dX10_addFrameData_4 : decode cX10_addFrameData 4 = .ok (.invokestatic 123, 3) := by decide +kernel
theorem dX10_addFrameData_7 : decode cX10_addFrameData 7 = .ok (.iadd, 1) := by decide +kernel
theorem dX10_addFrameData_8 : decode cX10_addFrameData 8 = .ok (.ldc 131, 2) := by decide +kernel
theorem dX10_addFrameData_10 : decode cX10_addFrameData 10 = .ok (.invokevirtual 41, 3) := by decide +kernel
theorem dX10_addFrameData_13 : decode cX10_addFrameData 13 = .ok (.aload_n 0, 1) := by decide +kernel
theorem dX10_addFrameData_14 : decode cX10_addFrameData 14 = .ok (.invokevirtual 103, 3) := by decide +kernel
theorem dX10_addFrameData_17 : decode cX10_addFrameData 17 = .ok (.aload_n 0, 1) := by decide +kernel
theorem dX10_addFrameData_18 : decode cX10_addFrameData 18 = .ok (.aload_n 1, 1) := by decide +kernel
theorem dX10_addFrameData_19 : decode cX10_addFrameData 19 = .ok (.invokevirtual 128, 3) := by decide +kernel
theorem dX10_addFrameData_22 : decode cX10_addFrameData 22 = .ok (.aload_n 0, 1) := by decide +kernel
theorem dX10_addFrameData_23 : decode cX10_addFrameData 23 = .ok (.invokevirtual 53, 3) := by decide +kernel
theorem dX10_addFrameData_26 : decode cX10_addFrameData 26 = .ok (.return_, 1) := by decide +kernel
theorem dX10_rawSize_0 : decode cX10_rawSize 0 = .ok (.aload_n 0, 1) := by decide +kernel
theorem dX10_rawSize_1 : decode cX10_rawSize 1 = .ok (.getfield 109, 3) := by decide +kernel
theorem dX10_rawSize_4 : decode cX10_rawSize 4 = .ok (.iconst 1, 1) := by decide +kernel
theorem dX10_rawSize_5 : decode cX10_rawSize 5 = .ok (.iconst 4, 1) := by decide +kernel
theorem dX10_rawSize_6 : decode cX10_rawSize 6 = .ok (.aload_n 0, 1) := by decide +kernel
theorem dX10_rawSize_7 : decode cX10_rawSize 7 = .ok (.getfield 106, 3) := by decide +kernel
theorem dX10_rawSize_10 : decode cX10_rawSize 10 = .ok (.imul, 1) := by decide +kernel
theorem dX10_rawSize_11 : decode cX10_rawSize 11 = .ok (.iadd, 1) := by decide +kernel
theorem dX10_rawSize_12 : decode cX10_rawSize 12 = .ok (.imul, 1) := by decide +kernel
theorem dX10_rawSize_13 : decode cX10_rawSize 13 = .ok (.ireturn, 1) := by decide +kernel
theorem dX10_addPacked_0 : decode cX10_addPacked 0 = .ok (.aload_n 1, 1) := by decide +kernel
theorem dX10_addPacked_1 : decode cX10_addPacked 1 = .ok (.invokestatic 123, 3) := by decide +kernel
theorem dX10_addPacked_4 : decode cX10_addPacked 4 = .ok (.istore_n 2, 1) := by decide +kernel
theorem dX10_addPacked_5 : decode cX10_addPacked 5 = .ok (.aload_n 0, 1) := by decide +kernel
theorem dX10_addPacked_6 : decode cX10_addPacked 6 = .ok (.getfield 14, 3) := by decide +kernel
theorem dX10_addPacked_9 : decode cX10_addPacked 9 = .ok (.bipush 120, 2) := by decide +kernel
theorem dX10_addPacked_11 : decode cX10_addPacked 11 = .ok (.invokevirtual 99, 3) := by decide +kernel
theorem dX10_addPacked_14 : decode cX10_addPacked 14 = .ok (.aload_n 0, 1) := by decide +kernel
theorem dX10_addPacked_15 : decode cX10_addPacked 15 = .ok (.getfield 14, 3) := by decide +kernel
theorem dX10_addPacked_18 : decode cX10_addPacked 18 = .ok (.iconst 1, 1) := by decide +kernel
theorem dX10_addPacked_19 : decode cX10_addPacked 19 = .ok (.invokevirtual 99, 3) := by decide +kernel
theorem dX10_addPacked_22 : decode cX10_addPacked 22 = .ok (.aload_n 0, 1) := by decide +kernel
theorem dX10_addPacked_23 : decode cX10_addPacked 23 = .ok (.getfield 14, 3) := by decide +kernel
theorem dX10_addPacked_26 : decode cX10_addPacked 26 = .ok (.iconst 1, 1) := by decide +kernel
theorem dX10_addPacked_27 : decode cX10_addPacked 27 = .ok (.invokevirtual 99, 3) := by decide +kernel
theorem dX10_addPacked_30 : decode cX10_addPacked 30 = .ok (.aload_n 0, 1) := by decide +kernel
theorem dX10_addPacked_31 : decode cX10_addPacked 31 = .ok (.getfield 14, 3) := by decide +kernel
theorem dX10_addPacked_34 : decode cX10_addPacked 34 = .ok (.iload_n 2, 1) := by decide +kernel
theorem dX10_addPacked_35 : decode cX10_addPacked 35 = .ok (.invokevirtual 99, 3) := by decide +kernel
theorem dX10_addPacked_38 : decode cX10_addPacked 38 = .ok (.aload_n 0, 1) := by decide +kernel
theorem dX10_addPacked_39 : decode cX10_addPacked 39 = .ok (.getfield 14, 3) := by decide +kernel
theorem dX10_addPacked_42 : decode cX10_addPacked 42 = .ok (.iload_n 2, 1) := by decide +kernel
theorem dX10_addPacked_43 : decode cX10_addPacked 43 = .ok (.bipush 8, 2) := by decide +kernel
theorem dX10_addPacked_45 : decode cX10_addPacked 45 = .ok (.iushr, 1) := by decide +kernel
theorem dX10_addPacked_46 : decode cX10_addPacked 46 = .ok (.invokevirtual 99, 3) := by decide +kernel
theorem dX10_addPacked_49 : decode cX10_addPacked 49 = .ok (.aload_n 0, 1) := by decide +kernel
theorem dX10_addPacked_50 : decode cX10_addPacked 50 = .ok (.getfield 14, 3) := by decide +kernel
theorem dX10_addPacked_53 : decode cX10_addPacked 53 = .ok (.iload_n 2, 1) := by decide +kernel
theorem dX10_addPacked_54 : decode cX10_addPacked 54 = .ok (.iconst (-1), 1) := by decide +kernel
theorem dX10_addPacked_55 : decode cX10_addPacked 55 = .ok (.ixor, 1) := by decide +kernel
theorem dX10_addPacked_56 : decode cX10_addPacked 56 = .ok (.invokevirtual 99, 3) := by decide +kernel
theorem dX10_addPacked_59 : decode cX10_addPacked 59 = .ok (.aload_n 0, 1) := by decide +kernel
theorem dX10_addPacked_60 : decode cX10_addPacked 60 = .ok (.getfield 14, 3) := by decide +kernel
theorem dX10_addPacked_63 : decode cX10_addPacked 63 = .ok (.iload_n 2, 1) := by decide +kernel
theorem dX10_addPacked_64 : decode cX10_addPacked 64 = .ok (.iconst (-1), 1) := by decide +kernel
theorem dX10_addPacked_65 : decode cX10_addPacked 65 = .ok (.ixor, 1) := by decide +kernel
theorem dX10_addPacked_66 : decode cX10_addPacked 66 = .ok (.bipush 8, 2) := by decide +kernel
theorem dX10_addPacked_68 : decode cX10_addPacked 68 = .ok (.iushr, 1) := by decide +kernel
theorem dX10_addPacked_69 : decode cX10_addPacked 69 = .ok (.invokevirtual 99, 3) := by decide +kernel
theorem dX10_addPacked_72 : decode cX10_addPacked 72 = .ok (.aload_n 0, 1) := by decide +kernel
theorem dX10_addPacked_73 : decode cX10_addPacked 73 = .ok (.getfield 14, 3) := by decide +kernel
theorem dX10_addPacked_76 : decode cX10_addPacked 76 = .ok (.getfield 79, 3) := by decide +kernel
theorem dX10_addPacked_79 : decode cX10_addPacked 79 = .ok (.istore_n 3, 1) := by decide +kernel
theorem dX10_addPacked_80 : decode cX10_addPacked 80 = .ok (.iconst 0, 1) := by decide +kernel
theorem dX10_addPacked_81 : decode cX10_addPacked 81 = .ok (.istore 4, 2) := by decide +kernel
theorem dX10_addPacked_83 : decode cX10_addPacked 83 = .ok (.iload 4, 2) := by decide +kernel
theorem dX10_addPacked_85 : decode cX10_addPacked 85 = .ok (.aload_n 1, 1) := by decide +kernel
theorem dX10_addPacked_86 : decode cX10_addPacked 86 = .ok (.getfield 109, 3) := by decide +kernel
theorem dX10_addPacked_89 : decode cX10_addPacked 89 = .ok (.if_icmp .ge 57, 3) := by decide +kernel
theorem dX10_addPacked_92 : decode cX10_addPacked 92 = .ok (.aload_n 0, 1) := by decide +kernel
theorem dX10_addPacked_93 : decode cX10_addPacked 93 = .ok (.getfield 14, 3) := by decide +kernel
theorem dX10_addPacked_96 : decode cX10_addPacked 96 = .ok (.iconst 0, 1) := by decide +kernel
theorem dX10_addPacked_97 : decode cX10_addPacked 97 = .ok (.invokevirtual 99, 3) := by decide +kernel
theorem dX10_addPacked_100 : decode cX10_addPacked 100 = .ok (.iconst 0, 1) := by decide +kernel
theorem dX10_addPacked_101 : decode cX10_addPacked 101 = .ok (.istore 5, 2) := by decide +kernel
theorem dX10_addPacked_103 : decode cX10_addPacked 103 = .ok (.iload 5, 2) := by decide +kernel
theorem dX10_addPacked_105 : decode cX10_addPacked 105 = .ok (.aload_n 1, 1) := by decide +kernel
theorem dX10_addPacked_106 : decode cX10_addPacked 106 = .ok (.getfield 106, 3) := by decide +kernel
theorem dX10_addPacked_109 : decode cX10_addPacked 109 = .ok (.if_icmp .ge 31, 3) := by decide +kernel
theorem dX10_addPacked_112 : decode cX10_addPacked 112 = .ok (.aload_n 0, 1) := by decide +kernel
theorem dX10_addPacked_113 : decode cX10_addPacked 113 = .ok (.getfield 14, 3) := by decide +kernel
theorem dX10_addPacked_116 : decode cX10_addPacked 116 = .ok (.aload_n 1, 1) := by decide +kernel
theorem dX10_addPacked_117 : decode cX10_addPacked 117 = .ok (.getfield 134, 3) := by decide +kernel
theorem dX10_addPacked_120 : decode cX10_addPacked 120 = .ok (.iload 4, 2) := by decide +kernel
theorem dX10_addPacked_122 : decode cX10_addPacked 122 = .ok (.aload_n 1, 1) := by decide +kernel
theorem dX10_addPacked_123 : decode cX10_addPacked 123 = .ok (.getfield 106, 3) := by decide +kernel
theorem dX10_addPacked_126 : decode cX10_addPacked 126 = .ok (.imul, 1) := by decide +kernel
theorem dX10_addPacked_127 : decode cX10_addPacked 127 = .ok (.iload 5, 2) := by decide +kernel
theorem dX10_addPacked_129 : decode cX10_addPacked 129 = .ok (.iadd, 1) := by decide +kernel
theorem dX10_addPacked_130 : decode cX10_addPacked 130 = .ok (.iaload, 1) := by decide +kernel
theorem dX10_addPacked_131 : decode cX10_addPacked 131 = .ok (.invokevirtual 32, 3) := by decide +kernel
theorem dX10_addPacked_134 : decode cX10_addPacked 134 = .ok (.iinc 5 1, 3) := by decide +kernel
theorem dX10_addPacked_137 : decode cX10_addPacked 137 = .ok (.goto (-34), 3) := by decide +kernel
theorem dX10_addPacked_140 : decode cX10_addPacked 140 = .ok (.iinc 4 1, 3) := by decide +kernel
theorem dX10_addPacked_143 : decode cX10_addPacked 143 = .ok (.goto (-60), 3) := by decide +kernel
theorem dX10_addPacked_146 : decode cX10_addPacked 146 = .ok (.aload_n 0, 1) := by decide +kernel
theorem dX10_addPacked_147 : decode cX10_addPacked 147 = .ok (.getfield 14, 3) := by decide +kernel
theorem dX10_addPacked_150 : decode cX10_addPacked 150 = .ok (.aload_n 0, 1) := by decide +kernel
theorem dX10_addPacked_151 : decode cX10_addPacked 151 = .ok (.getfield 14, 3) := by decide +kernel
theorem dX10_addPacked_154 : decode cX10_addPacked 154 = .ok (.iload_n 3, 1) := by decide +kernel
theorem dX10_addPacked_155 : decode cX10_addPacked 155 = .ok (.aload_n 0, 1) := by decide +kernel
theorem dX10_addPacked_156 : decode cX10_addPacked 156 = .ok (.getfield 14, 3) := by decide +kernel
theorem dX10_addPacked_159 : decode cX10_addPacked 159 = .ok (.getfield 79, 3) := by decide +kernel
theorem dX10_addPacked_162 : decode cX10_addPacked 162 = .ok (.invokestatic 138, 3) := by decide +kernel
theorem dX10_addPacked_165 : decode cX10_addPacked 165 = .ok (.invokevirtual 32, 3) := by decide +kernel
theorem dX10_addPacked_168 : decode cX10_addPacked 168 = .ok (.return_, 1) := by decide +kernel
theorem dX11_init_0 : decode cX11_init 0 = .ok (.aload_n 0, 1) := by decide +kernel
theorem dX11_init_1 : decode cX11_init 1 = .ok (.invokespecial 1, 3) := by decide +kernel
theorem dX11_init_4 : decode cX11_init 4 = .ok (.new 7, 3) := by decide +kernel
theorem dX11_init_7 : decode cX11_init 7 = .ok (.dup, 1) := by decide +kernel
theorem dX11_init_8 : decode cX11_init 8 = .ok (.invokespecial 9, 3) := by decide +kernel
theorem dX11_init_11 : decode cX11_init 11 = .ok (.astore_n 1, 1) := by decide +kernel
theorem dX11_init_12 : decode cX11_init 12 = .ok (.aload_n 0, 1) := by decide +kernel
theorem dX11_init_13 : decode cX11_init 13 = .ok (.new 10, 3) := by decide +kernel
theorem dX11_init_16 : decode cX11_init 16 = .ok (.dup, 1) := by decide +kernel
theorem dX11_init_17 : decode cX11_init 17 = .ok (.sipush 8000, 3) := by decide +kernel
theorem dX11_init_20 : decode cX11_init 20 = .ok (.invokespecial 14, 3) := by decide +kernel
theorem dX11_init_23 : decode cX11_init 23 = .ok (.putfield 17, 3) := by decide +kernel
theorem dX11_init_26 : decode cX11_init 26 = .ok (.aload_n 0, 1) := by decide +kernel
theorem dX11_init_27 : decode cX11_init 27 = .ok (.new 21, 3) := by decide +kernel
theorem dX11_init_30 : decode cX11_init 30 = .ok (.dup, 1) := by decide +kernel
theorem dX11_init_31 : decode cX11_init 31 = .ok (.aload_n 0, 1) := by decide +kernel
theorem dX11_init_32 : decode cX11_init 32 = .ok (.getfield 17, 3) := by decide +kernel
theorem dX11_init_35 : decode cX11_init 35 = .ok (.aload_n 1, 1) := by decide +kernel
theorem dX11_init_36 : decode cX11_init 36 = .ok (.invokespecial 23, 3) := by decide +kernel
theorem dX11_init_39 : decode cX11_init 39 = .ok (.putfield 26, 3) := by decide +kernel
theorem dX11_init_42 : decode cX11_init 42 = .ok (.aload_n 0, 1) := by decide +kernel
theorem dX11_init_43 : decode cX11_init 43 = .ok (.new 30, 3) := by decide +kernel
theorem dX11_init_46 : decode cX11_init 46 = .ok (.dup, 1) := by decide +kernel
theorem dX11_init_47 : decode cX11_init 47 = .ok (.aload_n 1, 1) := by decide +kernel
theorem dX11_init_48 : decode cX11_init 48 = .ok (.invokespecial 32, 3) := by decide +kernel
theorem dX11_init_51 : decode cX11_init 51 = .ok (.putfield 35, 3) := by decide +kernel
theorem dX11_init_54 : decode cX11_init 54 = .ok (.aload_n 0, 1) := by decide +kernel
theorem dX11_init_55 : decode cX11_init 55 = .ok (.new 39, 3) := by decide +kernel
theorem dX11_init_58 : decode cX11_init 58 = .ok (.dup, 1) := by decide +kernel
theorem dX11_init_59 : decode cX11_init 59 = .ok (.invokespecial 41, 3) := by decide +kernel
theorem dX11_init_62 : decode cX11_init 62 = .ok (.putfield 42, 3) := by decide +kernel
theorem dX11_init_65 : decode cX11_init 65 = .ok (.aload_n 0, 1) := by decide +kernel
theorem dX11_init_66 : decode cX11_init 66 = .ok (.new 46, 3) := by decide +kernel
theorem dX11_init_69 : decode cX11_init 69 = .ok (.dup, 1) := by decide +kernel
theorem dX11_init_70 : decode cX11_init 70 = .ok (.invokespecial 48, 3) := by decide +kernel
theorem dX11_init_73 : decode cX11_init 73 = .ok (.putfield 49, 3) := by decide +kernel
theorem dX11_init_76 : decode cX11_init 76 = .ok (.aload_n 0, 1) := by decide +kernel
theorem dX11_init_77 : decode cX11_init 77 = .ok (.iconst (-1), 1) := by decide +kernel
theorem dX11_init_78 : decode cX11_init 78 = .ok (.putfield 53, 3) := by decide +kernel
theorem dX11_init_81 : decode cX11_init 81 = .ok (.return_, 1) := by decide +kernel
theorem dX11_type_0 : decode cX11_type 0 = .ok (.iload_n 2, 1) := by decide +kernel
theorem dX11_type_1 : decode cX11_type 1 = .ok (.iconst 1, 1) := by decide +kernel
theorem dX11_type_2 : decode cX11_type 2 = .ok (.if_icmp .lt 8, 3) := by decide +kernel
theorem dX11_type_5 : decode cX11_type 5 = .ok (.iload_n 2, 1) := by decide +kernel
theorem dX11_type_6 : decode cX11_type 6 = .ok (.iconst 4, 1) := by decide +kernel
theorem dX11_type_7 : decode cX11_type 7 = .ok (.if_icmp .le 6, 3) := by decide +kernel
theorem dX11_type_10 : decode cX11_type 10 = .ok (.bipush (-12), 2) := by decide +kernel
theorem dX11_type_12 : decode cX11_type 12 = .ok (.ireturn, 1) := by decide +kernel
theorem dX11_type_13 : decode cX11_type 13 = .ok (.aload_n 0, 1) := by decide +kernel
theorem dX11_type_14 : decode cX11_type 14 = .ok (.getfield 17, 3) := by decide +kernel
theorem dX11_type_17 : decode cX11_type 17 = .ok (.iload_n 2, 1) := by decide +kernel
theorem dX11_type_18 : decode cX11_type 18 = .ok (.invokevirtual 57, 3) := by decide +kernel
theorem dX11_type_21 : decode cX11_type 21 = .ok (.ifCond .ne 6, 3) := by decide +kernel
theorem dX11_type_24 : decode cX11_type 24 = .ok (.bipush (-14), 2) := by decide +kernel
theorem dX11_type_26 : decode cX11_type 26 = .ok (.ireturn, 1) := by decide +kernel
theorem dX11_type_27 : decode cX11_type 27 = .ok (.iload_n 2, 1) := by decide +kernel
theorem dX11_type_28 : decode cX11_type 28 = .ok (.iconst 1, 1) := by decide +kernel
theorem dX11_type_29 : decode cX11_type 29 = .ok (.isub, 1) := by decide +kernel
theorem dX11_type_30 : decode cX11_type 30 = .ok (.istore_n 3, 1) := by decide +kernel
theorem dX11_type_31 : decode cX11_type 31 = .ok (.iload_n 3, 1) := by decide +kernel
theorem dX11_type_32 : decode cX11_type 32 = .ok (.ifCond .lt 22, 3) := by decide +kernel
theorem dX11_type_35 : decode cX11_type 35 = .ok (.aload_n 0, 1) := by decide +kernel
theorem dX11_type_36 : decode cX11_type 36 = .ok (.getfield 17, 3) := by decide +kernel
theorem dX11_type_39 : decode cX11_type 39 = .ok (.iload_n 1, 1) := by decide +kernel
theorem dX11_type_40 : decode cX11_type 40 = .ok (.bipush 8, 2) := by decide +kernel
theorem dX11_type_42 : decode cX11_type 42 = .ok (.iload_n 3, 1) := by decide +kernel
theorem dX11_type_43 : decode cX11_type 43 = .ok (.imul, 1) := by decide +kernel
theorem dX11_type_44 : decode cX11_type 44 = .ok (.iushr, 1) := by decide +kernel
theorem dX11_type_45 : decode cX11_type 45 = .ok (.invokevirtual 61, 3) := by decide +kernel
theorem dX11_type_48 : decode cX11_type 48 = .ok (.iinc 3 (-1), 3) := by decide +kernel
theorem dX11_type_51 : decode cX11_type 51 = .ok (.goto (-20), 3) := by decide +kernel
theorem dX11_type_54 : decode cX11_type 54 = .ok (.aload_n 0, 1) := by decide +kernel
theorem dX11_type_55 : decode cX11_type 55 = .ok (.getfield 17, 3) := by decide +kernel
theorem dX11_type_58 : decode cX11_type 58 = .ok (.getfield 64, 3) := by decide +kernel
theorem dX11_type_61 : decode cX11_type 61 = .ok (.ireturn, 1) := by decide +kernel
theorem dX11_words_0 : decode cX11_words 0 = .ok (.aload_n 0, 1) := by decide +kernel
theorem dX11_words_1 : decode cX11_words 1 = .ok (.getfield 17, 3) := by decide +kernel
theorem dX11_words_4 : decode cX11_words 4 = .ok (.bipush 16, 2) := by decide +kernel
theorem dX11_words_6 : decode cX11_words 6 = .ok (.invokevirtual 57, 3) := by decide +kernel
theorem dX11_words_9 : decode cX11_words 9 = .ok (.ifCond .ne 6, 3) := by decide +kernel
theorem dX11_words_12 : decode cX11_words 12 = .ok (.bipush (-14), 2) := by decide +kernel
theorem dX11_words_14 : decode cX11_words 14 = .ok (.ireturn, 1) := by decide +kernel
theorem dX11_words_15 : decode cX11_words 15 = .ok (.aload_n 0, 1) := by decide +kernel
theorem dX11_words_16 : decode cX11_words 16 = .ok (.getfield 17, 3) := by decide +kernel
theorem dX11_words_19 : decode cX11_words 19 = .ok (.iload_n 1, 1) := by decide +kernel
theorem dX11_words_20 : decode cX11_words 20 = .ok (.invokevirtual 67, 3) := by decide +kernel
theorem dX11_words_23 : decode cX11_words 23 = .ok (.aload_n 0, 1) := by decide +kernel
theorem dX11_words_24 : decode cX11_words 24 = .ok (.getfield 17, 3) := by decide +kernel
theorem dX11_words_27 : decode cX11_words 27 = .ok (.iload_n 2, 1) := by decide +kernel
theorem dX11_words_28 : decode cX11_words 28 = .ok (.invokevirtual 67, 3) := by decide +kernel
theorem dX11_words_31 : decode cX11_words 31 = .ok (.aload_n 0, 1) := by decide +kernel
theorem dX11_words_32 : decode cX11_words 32 = .ok (.getfield 17, 3) := by decide +kernel
theorem dX11_words_35 : decode cX11_words 35 = .ok (.iload_n 3, 1) := by decide +kernel
theorem dX11_words_36 : decode cX11_words 36 = .ok (.invokevirtual 67, 3) := by decide +kernel
theorem dX11_words_39 : decode cX11_words 39 = .ok (.aload_n 0, 1) := by decide +kernel
theorem dX11_words_40 : decode cX11_words 40 = .ok (.getfield 17, 3) := by decide +kernel
theorem dX11_words_43 : decode cX11_words 43 = .ok (.iload 4, 2) := by decide +kernel
theorem dX11_words_45 : decode cX11_words 45 = .ok (.invokevirtual 67, 3) := by decide +kernel
theorem dX11_words_48 : decode cX11_words 48 = .ok (.aload_n 0, 1) := by decide +kernel
theorem dX11_words_49 : decode cX11_words 49 = .ok (.getfield 17, 3) := by decide +kernel
theorem dX11_words_52 : decode cX11_words 52 = .ok (.getfield 64, 3) := by decide +kernel
theorem dX11_words_55 : decode cX11_words 55 = .ok (.ireturn, 1) := by decide +kernel
theorem dX11_read_0 : decode cX11_read 0 = .ok (.aload_n 0, 1) := by decide +kernel
theorem dX11_read_1 : decode cX11_read 1 = .ok (.getfield 26, 3) := by decide +kernel
theorem dX11_read_4 : decode cX11_read 4 = .ok (.invokevirtual 70, 3) := by decide +kernel
theorem dX11_read_7 : decode cX11_read 7 = .ok (.istore_n 1, 1) := by decide +kernel
theorem dX11_read_8 : decode cX11_read 8 = .ok (.aload_n 0, 1) := by decide +kernel
theorem dX11_read_9 : decode cX11_read 9 = .ok (.getfield 17, 3) := by decide +kernel
theorem dX11_read_12 : decode cX11_read 12 = .ok (.invokevirtual 74, 3) := by decide +kernel
theorem dX11_read_15 : decode cX11_read 15 = .ok (.iload_n 1, 1) := by decide +kernel
theorem dX11_read_16 : decode cX11_read 16 = .ok (.ifCond .eq 17, 3) := by decide +kernel
theorem dX11_read_19 : decode cX11_read 19 = .ok (.aload_n 0, 1) := by decide +kernel
theorem dX11_read_20 : decode cX11_read 20 = .ok (.aload_n 0, 1) := by decide +kernel
theorem dX11_read_21 : decode cX11_read 21 = .ok (.getfield 26, 3) := by decide +kernel
theorem dX11_read_24 : decode cX11_read 24 = .ok (.getfield 77, 3) := by decide +kernel
theorem dX11_read_27 : decode cX11_read 27 = .ok (.putfield 53, 3) := by decide +kernel
theorem dX11_read_30 : decode cX11_read 30 = .ok (.iload_n 1, 1) := by decide +kernel
theorem dX11_read_31 : decode cX11_read 31 = .ok (.ineg, 1) := by decide +kernel
theorem dX11_read_32 : decode cX11_read 32 = .ok (.ireturn, 1) := by decide +kernel
theorem dX11_read_33 : decode cX11_read 33 = .ok (.aload_n 0, 1) := by decide +kernel
theorem dX11_read_34 : decode cX11_read 34 = .ok (.iconst (-1), 1) := by decide +kernel
theorem dX11_read_35 : decode cX11_read 35 = .ok (.putfield 53, 3) := by decide +kernel
theorem dX11_read_38 : decode cX11_read 38 = .ok (.aload_n 0, 1) := by decide +kernel
theorem dX11_read_39 : decode cX11_read 39 = .ok (.aload_n 0, 1) := by decide +kernel
theorem dX11_read_40 : decode cX11_read 40 = .ok (.getfield 26, 3) := by decide +kernel
theorem dX11_read_43 : decode cX11_read 43 = .ok (.aload_n 0, 1) := by decide +kernel
theorem dX11_read_44 : decode cX11_read 44 = .ok (.getfield 49, 3) := by decide +kernel
theorem dX11_read_47 : decode cX11_read 47 = .ok (.invokevirtual 78, 3) := by decide +kernel
theorem dX11_read_50 : decode cX11_read 50 = .ok (.putfield 49, 3) := by decide +kernel
theorem dX11_read_53 : decode cX11_read 53 = .ok (.aload_n 0, 1) := by decide +kernel
theorem dX11_read_54 : decode cX11_read 54 = .ok (.getfield 42, 3) := by decide +kernel
theorem dX11_read_57 : decode cX11_read 57 = .ok (.invokevirtual 82, 3) := by decide +kernel
theorem dX11_read_60 : decode cX11_read 60 = .ok (.aload_n 0, 1) := by decide +kernel
theorem dX11_read_61 : decode cX11_read 61 = .ok (.getfield 49, 3) := by decide +kernel
theorem dX11_read_64 : decode cX11_read 64 = .ok (.getfield 85, 3) := by decide +kernel
theorem dX11_read_67 : decode cX11_read 67 = .ok (.ireturn, 1) := by decide +kernel
theorem dX11_place_0 : decode cX11_place 0 = .ok (.aload_n 0, 1) := by decide +kernel
theorem dX11_place_1 : decode cX11_place 1 = .ok (.getfield 53, 3) := by decide +kernel
theorem dX11_place_4 : decode cX11_place 4 = .ok (.ireturn, 1) := by decide +kernel
theorem dX11_begin_0 : decode cX11_begin 0 = .ok (.iload_n 1, 1) := by decide +kernel
theorem dX11_begin_1 : decode cX11_begin 1 = .ok (.iconst 1, 1) := by decide +kernel
theorem dX11_begin_2 : decode cX11_begin 2 = .ok (.if_icmp .lt 24, 3) := by decide +kernel
theorem dX11_begin_5 : decode cX11_begin 5 = .ok (.iload_n 1, 1) := by decide +kernel
theorem dX11_begin_6 : decode cX11_begin 6 = .ok (.bipush 16, 2) := by decide +kernel
theorem dX11_begin_8 : decode cX11_begin 8 = .ok (.if_icmp .gt 18, 3) := by decide +kernel
theorem dX11_begin_11 : decode cX11_begin 11 = .ok (.iload_n 2, 1) := by decide +kernel
theorem dX11_begin_12 : decode cX11_begin 12 = .ok (.iconst 1, 1) := by decide +kernel
theorem dX11_begin_13 : decode cX11_begin 13 = .ok (.if_icmp .lt 13, 3) := by decide +kernel
theorem dX11_begin_16 : decode cX11_begin 16 = .ok (.iload_n 2, 1) := by decide +kernel
theorem dX11_begin_17 : decode cX11_begin 17 = .ok (.bipush 16, 2) := by decide +kernel
theorem dX11_begin_19 : decode cX11_begin 19 = .ok (.if_icmp .gt 7, 3) := by decide +kernel
theorem dX11_begin_22 : decode cX11_begin 22 = .ok (.iload_n 3, 1) := by decide +kernel
theorem dX11_begin_23 : decode cX11_begin 23 = .ok (.ifCond .ge 6, 3) := by decide +kernel
theorem dX11_begin_26 : decode cX11_begin 26 = .ok (.bipush (-12), 2) := by decide +kernel
theorem dX11_begin_28 : decode cX11_begin 28 = .ok (.ireturn, 1) := by decide +kernel
theorem dX11_begin_29 : decode cX11_begin 29 = .ok (.aload_n 0, 1) := by decide +kernel
theorem dX11_begin_30 : decode cX11_begin 30 = .ok (.getfield 49, 3) := by decide +kernel
theorem dX11_begin_33 : decode cX11_begin 33 = .ok (.iload_n 1, 1) := by decide +kernel
theorem dX11_begin_34 : decode cX11_begin 34 = .ok (.iload_n 2, 1) := by decide +kernel
theorem dX11_begin_35 : decode cX11_begin 35 = .ok (.invokevirtual 88, 3) := by decide +kernel
theorem dX11_begin_38 : decode cX11_begin 38 = .ok (.aload_n 0, 1) := by decide +kernel
theorem dX11_begin_39 : decode cX11_begin 39 = .ok (.getfield 49, 3) := by decide +kernel
theorem dX11_begin_42 : decode cX11_begin 42 = .ok (.iload_n 3, 1) := by decide +kernel
theorem dX11_begin_43 : decode cX11_begin 43 = .ok (.putfield 92, 3) := by decide +kernel
theorem dX11_begin_46 : decode cX11_begin 46 = .ok (.aload_n 0, 1) := by decide +kernel
theorem dX11_begin_47 : decode cX11_begin 47 = .ok (.getfield 49, 3) := by decide +kernel
theorem dX11_begin_50 : decode cX11_begin 50 = .ok (.getfield 95, 3) := by decide +kernel
theorem dX11_begin_53 : decode cX11_begin 53 = .ok (.invokevirtual 99, 3) := by decide +kernel
theorem dX11_begin_56 : decode cX11_begin 56 = .ok (.aload_n 0, 1) := by decide +kernel
theorem dX11_begin_57 : decode cX11_begin 57 = .ok (.getfield 42, 3) := by decide +kernel
theorem dX11_begin_60 : decode cX11_begin 60 = .ok (.invokevirtual 82, 3) := by decide +kernel
theorem dX11_begin_63 : decode cX11_begin 63 = .ok (.iconst 1, 1) := by decide +kernel
theorem dX11_begin_64 : decode cX11_begin 64 = .ok (.ireturn, 1) := by decide +kernel
theorem dX11_frame_0 : decode cX11_frame 0 = .ok (.aload_n 0, 1) := by decide +kernel
theorem dX11_frame_1 : decode cX11_frame 1 = .ok (.getfield 49, 3) := by decide +kernel
theorem dX11_frame_4 : decode cX11_frame 4 = .ok (.getfield 102, 3) := by decide +kernel
theorem dX11_frame_7 : decode cX11_frame 7 = .ok (.ifCond .ne 6, 3) := by decide +kernel
theorem dX11_frame_10 : decode cX11_frame 10 = .ok (.bipush (-13), 2) := by decide +kernel
theorem dX11_frame_12 : decode cX11_frame 12 = .ok (.ireturn, 1) := by decide +kernel
theorem dX11_frame_13 : decode cX11_frame 13 = .ok (.aload_n 0, 1) := by decide +kernel
theorem dX11_frame_14 : decode cX11_frame 14 = .ok (.getfield 49, 3) := by decide +kernel
theorem dX11_frame_17 : decode cX11_frame 17 = .ok (.iload_n 1, 1) := by decide +kernel
theorem dX11_frame_18 : decode cX11_frame 18 = .ok (.iload_n 2, 1) := by decide +kernel
theorem dX11_frame_19 : decode cX11_frame 19 = .ok (.iload_n 3, 1) := by decide +kernel
theorem dX11_frame_20 : decode cX11_frame 20 = .ok (.iload 4, 2) := by decide +kernel
theorem dX11_frame_22 : decode cX11_frame 22 = .ok (.iload 5, 2) := by decide +kernel
theorem dX11_frame_24 : decode cX11_frame 24 = .ok (.iload 6, 2) := by decide +kernel
theorem dX11_frame_26 : decode cX11_frame 26 = .ok (.invokevirtual 106, 3) := by decide +kernel
theorem dX11_frame_29 : decode cX11_frame 29 = .ok (.ifCond .ne 6, 3) := by decide +kernel
theorem dX11_frame_32 : decode cX11_frame 32 = .ok (.bipush (-12), 2) := by decide +kernel
theorem dX11_frame_34 : decode cX11_frame 34 = .ok (.ireturn, 1) := by decide +kernel
theorem dX11_frame_35 : decode cX11_frame 35 = .ok (.aload_n 0, 1) := by decide +kernel
theorem dX11_frame_36 : decode cX11_frame 36 = .ok (.getfield 49, 3) := by decide +kernel
theorem dX11_frame_39 : decode cX11_frame 39 = .ok (.getfield 85, 3) := by decide +kernel
theorem dX11_frame_42 : decode cX11_frame 42 = .ok (.bipush 8, 2) := by decide +kernel
theorem dX11_frame_44 : decode cX11_frame 44 = .ok (.if_icmp .lt 6, 3) := by decide +kernel
theorem dX11_frame_47 : decode cX11_frame 47 = .ok (.bipush (-14), 2) := by decide +kernel
theorem dX11_frame_49 : decode cX11_frame 49 = .ok (.ireturn, 1) := by decide +kernel
theorem dX11_frame_50 : decode cX11_frame 50 = .ok (.aload_n 0, 1) := by decide +kernel
theorem dX11_frame_51 : decode cX11_frame 51 = .ok (.getfield 49, 3) := by decide +kernel
theorem dX11_frame_54 : decode cX11_frame 54 = .ok (.iload_n 1, 1) := by decide +kernel
theorem dX11_frame_55 : decode cX11_frame 55 = .ok (.iload_n 2, 1) := by decide +kernel
theorem dX11_frame_56 : decode cX11_frame 56 = .ok (.iload_n 3, 1) := by decide +kernel
theorem dX11_frame_57 : decode cX11_frame 57 = .ok (.iload 4, 2) := by decide +kernel
theorem dX11_frame_59 : decode cX11_frame 59 = .ok (.iload 5, 2) := by decide +kernel
theorem dX11_frame_61 : decode cX11_frame 61 = .ok (.iload 6, 2) := by decide +kernel
theorem dX11_frame_63 : decode cX11_frame 63 = .ok (.invokevirtual 110, 3) := by decide +kernel
theorem dX11_frame_66 : decode cX11_frame 66 = .ok (.aload_n 0, 1) := by decide +kernel
theorem dX11_frame_67 : decode cX11_frame 67 = .ok (.getfield 49, 3) := by decide +kernel
theorem dX11_frame_70 : decode cX11_frame 70 = .ok (.getfield 113, 3) := by decide +kernel
theorem dX11_frame_73 : decode cX11_frame 73 = .ok (.aload_n 0, 1) := by decide +kernel
theorem dX11_frame_74 : decode cX11_frame 74 = .ok (.getfield 49, 3) := by decide +kernel
theorem dX11_frame_77 : decode cX11_frame 77 = .ok (.getfield 85, 3) := by decide +kernel
theorem dX11_frame_80 : decode cX11_frame 80 = .ok (.iconst 1, 1) := by decide +kernel
theorem dX11_frame_81 : decode cX11_frame 81 = .ok (.isub, 1) := by decide +kernel
theorem dX11_frame_82 : decode cX11_frame 82 = .ok (.aaload, 1) := by decide +kernel
theorem dX11_frame_83 : decode cX11_frame 83 = .ok (.invokevirtual 99, 3) := by decide +kernel
theorem dX11_frame_86 : decode cX11_frame 86 = .ok (.aload_n 0, 1) := by decide +kernel
theorem dX11_frame_87 : decode cX11_frame 87 = .ok (.getfield 42, 3) := by decide +kernel
theorem dX11_frame_90 : decode cX11_frame 90 = .ok (.invokevirtual 82, 3) := by decide +kernel
theorem dX11_frame_93 : decode cX11_frame 93 = .ok (.aload_n 0, 1) := by decide +kernel
theorem dX11_frame_94 : decode cX11_frame 94 = .ok (.getfield 49, 3) := by decide +kernel
theorem dX11_frame_97 : decode cX11_frame 97 = .ok (.getfield 85, 3) := by decide +kernel
theorem dX11_frame_100 : decode cX11_frame 100 = .ok (.ireturn, 1) := by decide +kernel
theorem dX11_paint_0 : decode cX11_paint 0 = .ok (.aload_n 0, 1) := by decide +kernel
theorem dX11_paint_1 : decode cX11_paint 1 = .ok (.iload_n 1, 1) := by decide +kernel
theorem dX11_paint_2 : decode cX11_paint 2 = .ok (.invokevirtual 117, 3) := by decide +kernel
theorem dX11_paint_5 : decode cX11_paint 5 = .ok (.astore 5, 2) := by decide +kernel
theorem dX11_paint_7 : decode cX11_paint 7 = .ok (.aload 5, 2) := by decide +kernel
theorem dX11_paint_9 : decode cX11_paint 9 = .ok (.ifnonnull 6, 3) := by decide +kernel
theorem dX11_paint_12 : decode cX11_paint 12 = .ok (.bipush (-11), 2) := by decide +kernel
theorem dX11_paint_14 : decode cX11_paint 14 = .ok (.ireturn, 1) := by decide +kernel
theorem dX11_paint_15 : decode cX11_paint 15 = .ok (.iload_n 2, 1) := by decide +kernel
theorem dX11_paint_16 : decode cX11_paint 16 = .ok (.ifCond .lt 25, 3) := by decide +kernel
theorem dX11_paint_19 : decode cX11_paint 19 = .ok (.iload_n 2, 1) := by decide +kernel
theorem dX11_paint_20 : decode cX11_paint 20 = .ok (.aload 5, 2) := by decide +kernel
theorem dX11_paint_22 : decode cX11_paint 22 = .ok (.getfield 121, 3) := by decide +kernel
theorem dX11_paint_25 : decode cX11_paint 25 = .ok (.if_icmp .ge 16, 3) := by decide +kernel
theorem dX11_paint_28 : decode cX11_paint 28 = .ok (.iload_n 3, 1) := by decide +kernel
theorem dX11_paint_29 : decode cX11_paint 29 = .ok (.ifCond .lt 12, 3) := by decide +kernel
theorem dX11_paint_32 : decode cX11_paint 32 = .ok (.iload_n 3, 1) := by decide +kernel
theorem dX11_paint_33 : decode cX11_paint 33 = .ok (.aload 5, 2) := by decide +kernel
theorem dX11_paint_35 : decode cX11_paint 35 = .ok (.getfield 124, 3) := by decide +kernel
theorem dX11_paint_38 : decode cX11_paint 38 = .ok (.if_icmp .lt 6, 3) := by decide +kernel
theorem dX11_paint_41 : decode cX11_paint 41 = .ok (.bipush (-12), 2) := by decide +kernel
theorem dX11_paint_43 : decode cX11_paint 43 = .ok (.ireturn, 1) := by decide +kernel
theorem dX11_paint_44 : decode cX11_paint 44 = .ok (.aload 5, 2) := by decide +kernel
theorem dX11_paint_46 : decode cX11_paint 46 = .ok (.getfield 127, 3) := by decide +kernel
theorem dX11_paint_49 : decode cX11_paint 49 = .ok (.iload_n 3, 1) := by decide +kernel
theorem dX11_paint_50 : decode cX11_paint 50 = .ok (.aload 5, 2) := by decide +kernel
theorem dX11_paint_52 : decode cX11_paint 52 = .ok (.getfield 121, 3) := by decide +kernel
theorem dX11_paint_55 : decode cX11_paint 55 = .ok (.imul, 1) := by decide +kernel
theorem dX11_paint_56 : decode cX11_paint 56 = .ok (.iload_n 2, 1) := by decide +kernel
theorem dX11_paint_57 : decode cX11_paint 57 = .ok (.iadd, 1) := by decide +kernel
theorem dX11_paint_58 : decode cX11_paint 58 = .ok (.iload 4, 2) := by decide +kernel
theorem dX11_paint_60 : decode cX11_paint 60 = .ok (.iastore, 1) := by decide +kernel
theorem dX11_paint_61 : decode cX11_paint 61 = .ok (.aload_n 0, 1) := by decide +kernel
theorem dX11_paint_62 : decode cX11_paint 62 = .ok (.getfield 42, 3) := by decide +kernel
theorem dX11_paint_65 : decode cX11_paint 65 = .ok (.invokevirtual 82, 3) := by decide +kernel
theorem dX11_paint_68 : decode cX11_paint 68 = .ok (.iconst 1, 1) := by decide +kernel
theorem dX11_paint_69 : decode cX11_paint 69 = .ok (.ireturn, 1) := by decide +kernel
theorem dX11_paintable_0 : decode cX11_paintable 0 = .ok (.aload_n 0, 1) := by decide +kernel
theorem dX11_paintable_1 : decode cX11_paintable 1 = .ok (.getfield 49, 3) := by decide +kernel
theorem dX11_paintable_4 : decode cX11_paintable 4 = .ok (.iload_n 1, 1) := by decide +kernel
theorem dX11_paintable_5 : decode cX11_paintable 5 = .ok (.invokevirtual 131, 3) := by decide +kernel
theorem dX11_paintable_8 : decode cX11_paintable 8 = .ok (.ifCond .eq 13, 3) := by decide +kernel
theorem dX11_paintable_11 : decode cX11_paintable 11 = .ok (.aload_n 0, 1) := by decide +kernel
theorem dX11_paintable_12 : decode cX11_paintable 12 = .ok (.getfield 49, 3) := by decide +kernel
theorem dX11_paintable_15 : decode cX11_paintable 15 = .ok (.getfield 113, 3) := by decide +kernel
theorem dX11_paintable_18 : decode cX11_paintable 18 = .ok (.iload_n 1, 1) := by decide +kernel
theorem dX11_paintable_19 : decode cX11_paintable 19 = .ok (.aaload, 1) := by decide +kernel
theorem dX11_paintable_20 : decode cX11_paintable 20 = .ok (.areturn, 1) := by decide +kernel
theorem dX11_paintable_21 : decode cX11_paintable 21 = .ok (.iload_n 1, 1) := by decide +kernel
theorem dX11_paintable_22 : decode cX11_paintable 22 = .ok (.iconst (-1), 1) := by decide +kernel
theorem dX11_paintable_23 : decode cX11_paintable 23 = .ok (.if_icmp .ne 33, 3) := by decide +kernel
theorem dX11_paintable_26 : decode cX11_paintable 26 = .ok (.aload_n 0, 1) := by decide +kernel
theorem dX11_paintable_27 : decode cX11_paintable 27 = .ok (.getfield 49, 3) := by decide +kernel
theorem dX11_paintable_30 : decode cX11_paintable 30 = .ok (.getfield 102, 3) := by decide +kernel
theorem dX11_paintable_33 : decode cX11_paintable 33 = .ok (.ifCond .eq 23, 3) := by decide +kernel
theorem dX11_paintable_36 : decode cX11_paintable 36 = .ok (.aload_n 0, 1) := by decide +kernel
theorem dX11_paintable_37 : decode cX11_paintable 37 = .ok (.getfield 49, 3) := by decide +kernel
theorem dX11_paintable_40 : decode cX11_paintable 40 = .ok (.getfield 134, 3) := by decide +kernel
theorem dX11_paintable_43 : decode cX11_paintable 43 = .ok (.ifCond .ne 13, 3) := by decide +kernel
theorem dX11_paintable_46 : decode cX11_paintable 46 = .ok (.aload_n 0, 1) := by decide +kernel
theorem dX11_paintable_47 : decode cX11_paintable 47 = .ok (.getfield 49, 3) := by decide +kernel
theorem dX11_paintable_50 : decode cX11_paintable 50 = .ok (.getfield 95, 3) := by decide +kernel
theorem dX11_paintable_53 : decode cX11_paintable 53 = .ok (.goto 4, 3) := by decide +kernel
theorem dX11_paintable_56 : decode cX11_paintable 56 = .ok (.aconst_null, 1) := by decide +kernel
theorem dX11_paintable_57 : decode cX11_paintable 57 = .ok (.areturn, 1) := by decide +kernel
theorem dX11_first_0 : decode cX11_first 0 = .ok (.aload_n 0, 1) := by decide +kernel
theorem dX11_first_1 : decode cX11_first 1 = .ok (.getfield 49, 3) := by decide +kernel
theorem dX11_first_4 : decode cX11_first 4 = .ok (.getfield 102, 3) := by decide +kernel
theorem dX11_first_7 : decode cX11_first 7 = .ok (.ifCond .eq 17, 3) := by decide +kernel
theorem dX11_first_10 : decode cX11_first 10 = .ok (.iload_n 1, 1) := by decide +kernel
theorem dX11_first_11 : decode cX11_first 11 = .ok (.ifCond .eq 16, 3) := by decide +kernel
theorem dX11_first_14 : decode cX11_first 14 = .ok (.aload_n 0, 1) := by decide +kernel
theorem dX11_first_15 : decode cX11_first 15 = .ok (.getfield 49, 3) := by decide +kernel
theorem dX11_first_18 : decode cX11_first 18 = .ok (.invokevirtual 137, 3) := by decide +kernel
theorem dX11_first_21 : decode cX11_first 21 = .ok (.ifCond .ne 6, 3) := by decide +kernel
theorem dX11_first_24 : decode cX11_first 24 = .ok (.bipush (-13), 2) := by decide +kernel
theorem dX11_first_26 : decode cX11_first 26 = .ok (.ireturn, 1) := by decide +kernel
theorem dX11_first_27 : decode cX11_first 27 = .ok (.aload_n 0, 1) := by decide +kernel
theorem dX11_first_28 : decode cX11_first 28 = .ok (.getfield 49, 3) := by decide +kernel
theorem dX11_first_31 : decode cX11_first 31 = .ok (.getfield 134, 3) := by decide +kernel
theorem dX11_first_34 : decode cX11_first 34 = .ok (.iload_n 1, 1) := by decide +kernel
theorem dX11_first_35 : decode cX11_first 35 = .ok (.if_icmp .ne 5, 3) := by decide +kernel
theorem dX11_first_38 : decode cX11_first 38 = .ok (.iconst 0, 1) := by decide +kernel
theorem dX11_first_39 : decode cX11_first 39 = .ok (.ireturn, 1) := by decide +kernel
theorem dX11_first_40 : decode cX11_first 40 = .ok (.aload_n 0, 1) := by decide +kernel
theorem dX11_first_41 : decode cX11_first 41 = .ok (.getfield 49, 3) := by decide +kernel
theorem dX11_first_44 : decode cX11_first 44 = .ok (.iload_n 1, 1) := by decide +kernel
theorem dX11_first_45 : decode cX11_first 45 = .ok (.putfield 134, 3) := by decide +kernel
theorem dX11_first_48 : decode cX11_first 48 = .ok (.aload_n 0, 1) := by decide +kernel
theorem dX11_first_49 : decode cX11_first 49 = .ok (.getfield 49, 3) := by decide +kernel
theorem dX11_first_52 : decode cX11_first 52 = .ok (.getfield 95, 3) := by decide +kernel
theorem dX11_first_55 : decode cX11_first 55 = .ok (.invokevirtual 99, 3) := by decide +kernel
theorem dX11_first_58 : decode cX11_first 58 = .ok (.aload_n 0, 1) := by decide +kernel
theorem dX11_first_59 : decode cX11_first 59 = .ok (.getfield 42, 3) := by decide +kernel
theorem dX11_first_62 : decode cX11_first 62 = .ok (.invokevirtual 82, 3) := by decide +kernel
theorem dX11_first_65 : decode cX11_first 65 = .ok (.iconst 1, 1) := by decide +kernel
theorem dX11_first_66 : decode cX11_first 66 = .ok (.ireturn, 1) := by decide +kernel
theorem dX11_about_0 : decode cX11_about 0 = .ok (.aload_n 0, 1) := by decide +kernel
theorem dX11_about_1 : decode cX11_about 1 = .ok (.getfield 49, 3) := by decide +kernel
theorem dX11_about_4 : decode cX11_about 4 = .ok (.getfield 102, 3) := by decide +kernel
theorem dX11_about_7 : decode cX11_about 7 = .ok (.ifCond .ne 6, 3) := by decide +kernel
theorem dX11_about_10 : decode cX11_about 10 = .ok (.bipush (-11), 2) := by decide +kernel
theorem dX11_about_12 : decode cX11_about 12 = .ok (.ireturn, 1) := by decide +kernel
theorem dX11_about_13 : decode cX11_about 13 = .ok (.iload_n 1, 1) := by decide +kernel
theorem dX11_about_14 : decode cX11_about 14 = .ok (.ifCond .lt 9, 3) := by decide +kernel
theorem dX11_about_17 : decode cX11_about 17 = .ok (.iload_n 1, 1) := by decide +kernel
theorem dX11_about_18 : decode cX11_about 18 = .ok (.bipush 10, 2) := by decide +kernel
theorem dX11_about_20 : decode cX11_about 20 = .ok (.if_icmp .le 6, 3) := by decide +kernel
theorem dX11_about_23 : decode cX11_about 23 = .ok (.bipush (-12), 2) := by decide +kernel
theorem dX11_about_25 : decode cX11_about 25 = .ok (.ireturn, 1) := by decide +kernel
theorem dX11_about_26 : decode cX11_about 26 = .ok (.iload_n 1, 1) := by decide +kernel
theorem dX11_about_27 : decode cX11_about 27 = .ok (.iconst 4, 1) := by decide +kernel
theorem dX11_about_28 : decode cX11_about 28 = .ok (.if_icmp .gt 12, 3) := by decide +kernel
theorem dX11_about_31 : decode cX11_about 31 = .ok (.aload_n 0, 1) := by decide +kernel
theorem dX11_about_32 : decode cX11_about 32 = .ok (.getfield 49, 3) := by decide +kernel
theorem dX11_about_35 : decode cX11_about 35 = .ok (.iload_n 1, 1) := by decide +kernel
theorem dX11_about_36 : decode cX11_about 36 = .ok (.invokevirtual 141, 3) := by decide +kernel
theorem dX11_about_39 : decode cX11_about 39 = .ok (.ireturn, 1) := by decide +kernel
theorem dX11_about_40 : decode cX11_about 40 = .ok (.aload_n 0, 1) := by decide +kernel
theorem dX11_about_41 : decode cX11_about 41 = .ok (.getfield 49, 3) := by decide +kernel
theorem dX11_about_44 : decode cX11_about 44 = .ok (.iload_n 2, 1) := by decide +kernel
theorem dX11_about_45 : decode cX11_about 45 = .ok (.invokevirtual 131, 3) := by decide +kernel
theorem dX11_about_48 : decode cX11_about 48 = .ok (.ifCond .eq 19, 3) := by decide +kernel
theorem dX11_about_51 : decode cX11_about 51 = .ok (.aload_n 0, 1) := by decide +kernel
theorem dX11_about_52 : decode cX11_about 52 = .ok (.getfield 49, 3) := by decide +kernel
theorem dX11_about_55 : decode cX11_about 55 = .ok (.getfield 113, 3) := by decide +kernel
theorem dX11_about_58 : decode cX11_about 58 = .ok (.iload_n 2, 1) := by decide +kernel
theorem dX11_about_59 : decode cX11_about 59 = .ok (.aaload, 1) := by decide +kernel
theorem dX11_about_60 : decode cX11_about 60 = .ok (.iload_n 1, 1) := by decide +kernel
theorem dX11_about_61 : decode cX11_about 61 = .ok (.invokevirtual 145, 3) := by decide +kernel
theorem dX11_about_64 : decode cX11_about 64 = .ok (.goto 5, 3) := by decide +kernel
theorem dX11_about_67 : decode cX11_about 67 = .ok (.bipush (-11), 2) := by decide +kernel
theorem dX11_about_69 : decode cX11_about 69 = .ok (.ireturn, 1) := by decide +kernel
theorem dX11_show_0 : decode cX11_show 0 = .ok (.aload_n 0, 1) := by decide +kernel
theorem dX11_show_1 : decode cX11_show 1 = .ok (.getfield 49, 3) := by decide +kernel
theorem dX11_show_4 : decode cX11_show 4 = .ok (.iload_n 1, 1) := by decide +kernel
theorem dX11_show_5 : decode cX11_show 5 = .ok (.invokevirtual 131, 3) := by decide +kernel
theorem dX11_show_8 : decode cX11_show 8 = .ok (.ifCond .eq 17, 3) := by decide +kernel
theorem dX11_show_11 : decode cX11_show 11 = .ok (.aload_n 0, 1) := by decide +kernel
theorem dX11_show_12 : decode cX11_show 12 = .ok (.getfield 42, 3) := by decide +kernel
theorem dX11_show_15 : decode cX11_show 15 = .ok (.aload_n 0, 1) := by decide +kernel
theorem dX11_show_16 : decode cX11_show 16 = .ok (.getfield 49, 3) := by decide +kernel
theorem dX11_show_19 : decode cX11_show 19 = .ok (.iload_n 1, 1) := by decide +kernel
theorem dX11_show_20 : decode cX11_show 20 = .ok (.invokevirtual 146, 3) := by decide +kernel
theorem dX11_show_23 : decode cX11_show 23 = .ok (.iconst 1, 1) := by decide +kernel
theorem dX11_show_24 : decode cX11_show 24 = .ok (.ireturn, 1) := by decide +kernel
theorem dX11_show_25 : decode cX11_show 25 = .ok (.iload_n 1, 1) := by decide +kernel
theorem dX11_show_26 : decode cX11_show 26 = .ok (.iconst (-1), 1) := by decide +kernel
theorem dX11_show_27 : decode cX11_show 27 = .ok (.if_icmp .ne 29, 3) := by decide +kernel
theorem dX11_show_30 : decode cX11_show 30 = .ok (.aload_n 0, 1) := by decide +kernel
theorem dX11_show_31 : decode cX11_show 31 = .ok (.getfield 49, 3) := by decide +kernel
theorem dX11_show_34 : decode cX11_show 34 = .ok (.getfield 102, 3) := by decide +kernel
theorem dX11_show_37 : decode cX11_show 37 = .ok (.ifCond .eq 19, 3) := by decide +kernel
theorem dX11_show_40 : decode cX11_show 40 = .ok (.aload_n 0, 1) := by decide +kernel
theorem dX11_show_41 : decode cX11_show 41 = .ok (.getfield 42, 3) := by decide +kernel
theorem dX11_show_44 : decode cX11_show 44 = .ok (.aload_n 0, 1) := by decide +kernel
theorem dX11_show_45 : decode cX11_show 45 = .ok (.getfield 49, 3) := by decide +kernel
theorem dX11_show_48 : decode cX11_show 48 = .ok (.invokevirtual 150, 3) := by decide +kernel
theorem dX11_show_51 : decode cX11_show 51 = .ok (.invokevirtual 154, 3) := by decide +kernel
theorem dX11_show_54 : decode cX11_show 54 = .ok (.iconst 1, 1) := by decide +kernel
theorem dX11_show_55 : decode cX11_show 55 = .ok (.ireturn, 1) := by decide +kernel
theorem dX11_show_56 : decode cX11_show 56 = .ok (.bipush (-11), 2) := by decide +kernel
theorem dX11_show_58 : decode cX11_show 58 = .ok (.ireturn, 1) := by decide +kernel
theorem dX11_pixel_0 : decode cX11_pixel 0 = .ok (.aload_n 0, 1) := by decide +kernel
theorem dX11_pixel_1 : decode cX11_pixel 1 = .ok (.getfield 42, 3) := by decide +kernel
theorem dX11_pixel_4 : decode cX11_pixel 4 = .ok (.iload_n 1, 1) := by decide +kernel
theorem dX11_pixel_5 : decode cX11_pixel 5 = .ok (.iload_n 2, 1) := by decide +kernel
theorem dX11_pixel_6 : decode cX11_pixel 6 = .ok (.invokevirtual 158, 3) := by decide +kernel
theorem dX11_pixel_9 : decode cX11_pixel 9 = .ok (.ifCond .ne 11, 3) := by decide +kernel
theorem dX11_pixel_12 : decode cX11_pixel 12 = .ok (.new 162, 3) := by decide +kernel
theorem dX11_pixel_15 : decode cX11_pixel 15 = .ok (.dup, 1) := by decide +kernel
theorem dX11_pixel_16 : decode cX11_pixel 16 = .ok (.invokespecial 164, 3) := by decide +kernel
theorem dX11_pixel_19 : decode cX11_pixel 19 = .ok (.athrow, 1) := by decide +kernel
theorem dX11_pixel_20 : decode cX11_pixel 20 = .ok (.aload_n 0, 1) := by decide +kernel
theorem dX11_pixel_21 : decode cX11_pixel 21 = .ok (.getfield 42, 3) := by decide +kernel
theorem dX11_pixel_24 : decode cX11_pixel 24 = .ok (.getfield 165, 3) := by decide +kernel
theorem dX11_pixel_27 : decode cX11_pixel 27 = .ok (.iload_n 2, 1) := by decide +kernel
theorem dX11_pixel_28 : decode cX11_pixel 28 = .ok (.aload_n 0, 1) := by decide +kernel
theorem dX11_pixel_29 : decode cX11_pixel 29 = .ok (.getfield 42, 3) := by decide +kernel
theorem dX11_pixel_32 : decode cX11_pixel 32 = .ok (.getfield 166, 3) := by decide +kernel
theorem dX11_pixel_35 : decode cX11_pixel 35 = .ok (.imul, 1) := by decide +kernel
theorem dX11_pixel_36 : decode cX11_pixel 36 = .ok (.iload_n 1, 1) := by decide +kernel
theorem dX11_pixel_37 : decode cX11_pixel 37 = .ok (.iadd, 1) := by decide +kernel
theorem dX11_pixel_38 : decode cX11_pixel 38 = .ok (.iaload, 1) := by decide +kernel
theorem dX11_pixel_39 : decode cX11_pixel 39 = .ok (.ireturn, 1) := by decide +kernel
theorem dX11_write_0 : decode cX11_write 0 = .ok (.aload_n 0, 1) := by decide +kernel
theorem dX11_write_1 : decode cX11_write 1 = .ok (.getfield 49, 3) := by decide +kernel
theorem dX11_write_4 : decode cX11_write 4 = .ok (.getfield 102, 3) := by decide +kernel
theorem dX11_write_7 : decode cX11_write 7 = .ok (.ifCond .eq 13, 3) := by decide +kernel
theorem dX11_write_10 : decode cX11_write 10 = .ok (.aload_n 0, 1) := by decide +kernel
theorem dX11_write_11 : decode cX11_write 11 = .ok (.getfield 49, 3) := by decide +kernel
theorem dX11_write_14 : decode cX11_write 14 = .ok (.getfield 85, 3) := by decide +kernel
theorem dX11_write_17 : decode cX11_write 17 = .ok (.ifCond .ne 6, 3) := by decide +kernel
theorem dX11_write_20 : decode cX11_write 20 = .ok (.bipush (-13), 2) := by decide +kernel
theorem dX11_write_22 : decode cX11_write 22 = .ok (.ireturn, 1) := by decide +kernel
theorem dX11_write_23 : decode cX11_write 23 = .ok (.aload_n 0, 1) := by decide +kernel
theorem dX11_write_24 : decode cX11_write 24 = .ok (.getfield 35, 3) := by decide +kernel
theorem dX11_write_27 : decode cX11_write 27 = .ok (.aload_n 0, 1) := by decide +kernel
theorem dX11_write_28 : decode cX11_write 28 = .ok (.getfield 49, 3) := by decide +kernel
theorem dX11_write_31 : decode cX11_write 31 = .ok (.invokevirtual 167, 3) := by decide +kernel
theorem dX11_write_34 : decode cX11_write 34 = .ok (.aload_n 0, 1) := by decide +kernel
theorem dX11_write_35 : decode cX11_write 35 = .ok (.getfield 35, 3) := by decide +kernel
theorem dX11_write_38 : decode cX11_write 38 = .ok (.getfield 170, 3) := by decide +kernel
theorem dX11_write_41 : decode cX11_write 41 = .ok (.getfield 64, 3) := by decide +kernel
theorem dX11_write_44 : decode cX11_write 44 = .ok (.ireturn, 1) := by decide +kernel
theorem dX11_out_0 : decode cX11_out 0 = .ok (.aload_n 0, 1) := by decide +kernel
theorem dX11_out_1 : decode cX11_out 1 = .ok (.getfield 35, 3) := by decide +kernel
theorem dX11_out_4 : decode cX11_out 4 = .ok (.getfield 170, 3) := by decide +kernel
theorem dX11_out_7 : decode cX11_out 7 = .ok (.iload_n 1, 1) := by decide +kernel
theorem dX11_out_8 : decode cX11_out 8 = .ok (.invokevirtual 173, 3) := by decide +kernel
theorem dX11_out_11 : decode cX11_out 11 = .ok (.ireturn, 1) := by decide +kernel
theorem dX12_init_0 : decode cX12_init 0 = .ok (.aload_n 0, 1) := by decide +kernel
theorem dX12_init_1 : decode cX12_init 1 = .ok (.invokespecial 1, 3) := by decide +kernel
theorem dX12_init_4 : decode cX12_init 4 = .ok (.aload_n 0, 1) := by decide +kernel
theorem dX12_init_5 : decode cX12_init 5 = .ok (.sipush 8000, 3) := by decide +kernel
theorem dX12_init_8 : decode cX12_init 8 = .ok (.newarray .byte, 2) := by decide +kernel
theorem dX12_init_10 : decode cX12_init 10 = .ok (.putfield 7, 3) := by decide +kernel
theorem dX12_init_13 : decode cX12_init 13 = .ok (.aload_n 0, 1) := by decide +kernel
theorem dX12_init_14 : decode cX12_init 14 = .ok (.iconst (-1), 1) := by decide +kernel
theorem dX12_init_15 : decode cX12_init 15 = .ok (.putfield 13, 3) := by decide +kernel
theorem dX12_init_18 : decode cX12_init 18 = .ok (.aload_n 0, 1) := by decide +kernel
theorem dX12_init_19 : decode cX12_init 19 = .ok (.bipush 12, 2) := by decide +kernel
theorem dX12_init_21 : decode cX12_init 21 = .ok (.newarray .int, 2) := by decide +kernel
theorem dX12_init_23 : decode cX12_init 23 = .ok (.putfield 17, 3) := by decide +kernel
theorem dX12_init_26 : decode cX12_init 26 = .ok (.aload_n 0, 1) := by decide +kernel
theorem dX12_init_27 : decode cX12_init 27 = .ok (.bipush 96, 2) := by decide +kernel
theorem dX12_init_29 : decode cX12_init 29 = .ok (.newarray .int, 2) := by decide +kernel
theorem dX12_init_31 : decode cX12_init 31 = .ok (.putfield 21, 3) := by decide +kernel
theorem dX12_init_34 : decode cX12_init 34 = .ok (.aload_n 0, 1) := by decide +kernel
theorem dX12_init_35 : decode cX12_init 35 = .ok (.sipush 4608, 3) := by decide +kernel
theorem dX12_init_38 : decode cX12_init 38 = .ok (.newarray .int, 2) := by decide +kernel
theorem dX12_init_40 : decode cX12_init 40 = .ok (.putfield 24, 3) := by decide +kernel
theorem dX12_init_43 : decode cX12_init 43 = .ok (.aload_n 0, 1) := by decide +kernel
theorem dX12_init_44 : decode cX12_init 44 = .ok (.sipush 256, 3) := by decide +kernel
theorem dX12_init_47 : decode cX12_init 47 = .ok (.newarray .int, 2) := by decide +kernel
theorem dX12_init_49 : decode cX12_init 49 = .ok (.putfield 27, 3) := by decide +kernel
theorem dX12_init_52 : decode cX12_init 52 = .ok (.aload_n 0, 1) := by decide +kernel
theorem dX12_init_53 : decode cX12_init 53 = .ok (.sipush 256, 3) := by decide +kernel
theorem dX12_init_56 : decode cX12_init 56 = .ok (.newarray .int, 2) := by decide +kernel
theorem dX12_init_58 : decode cX12_init 58 = .ok (.putfield 30, 3) := by decide +kernel
theorem dX12_init_61 : decode cX12_init 61 = .ok (.aload_n 0, 1) := by decide +kernel
theorem dX12_init_62 : decode cX12_init 62 = .ok (.sipush 14000, 3) := by decide +kernel
theorem dX12_init_65 : decode cX12_init 65 = .ok (.newarray .byte, 2) := by decide +kernel
theorem dX12_init_67 : decode cX12_init 67 = .ok (.putfield 33, 3) := by decide +kernel
theorem dX12_init_70 : decode cX12_init 70 = .ok (.aload_n 0, 1) := by decide +kernel
theorem dX12_init_71 : decode cX12_init 71 = .ok (.sipush 8000, 3) := by decide +kernel
theorem dX12_init_74 : decode cX12_init 74 = .ok (.newarray .byte, 2) := by decide +kernel
theorem dX12_init_76 : decode cX12_init 76 = .ok (.putfield 36, 3) := by decide +kernel
theorem dX12_init_79 : decode cX12_init 79 = .ok (.aload_n 0, 1) := by decide +kernel
theorem dX12_init_80 : decode cX12_init 80 = .ok (.sipush 1100, 3) := by decide +kernel
theorem dX12_init_83 : decode cX12_init 83 = .ok (.newarray .byte, 2) := by decide +kernel
theorem dX12_init_85 : decode cX12_init 85 = .ok (.putfield 39, 3) := by decide +kernel
theorem dX12_init_88 : decode cX12_init 88 = .ok (.aload_n 0, 1) := by decide +kernel
theorem dX12_init_89 : decode cX12_init 89 = .ok (.sipush 380, 3) := by decide +kernel
theorem dX12_init_92 : decode cX12_init 92 = .ok (.newarray .int, 2) := by decide +kernel
theorem dX12_init_94 : decode cX12_init 94 = .ok (.putfield 42, 3) := by decide +kernel
theorem dX12_init_97 : decode cX12_init 97 = .ok (.aload_n 0, 1) := by decide +kernel
theorem dX12_init_98 : decode cX12_init 98 = .ok (.sipush 380, 3) := by decide +kernel
theorem dX12_init_101 : decode cX12_init 101 = .ok (.newarray .int, 2) := by decide +kernel
theorem dX12_init_103 : decode cX12_init 103 = .ok (.putfield 45, 3) := by decide +kernel
theorem dX12_init_106 : decode cX12_init 106 = .ok (.aload_n 0, 1) := by decide +kernel
theorem dX12_init_107 : decode cX12_init 107 = .ok (.iconst 0, 1) := by decide +kernel
theorem dX12_init_108 : decode cX12_init 108 = .ok (.putfield 48, 3) := by decide +kernel
theorem dX12_init_111 : decode cX12_init 111 = .ok (.return_, 1) := by decide +kernel
theorem dX12_thrown_0 : decode cX12_thrown 0 = .ok (.aload_n 0, 1) := by decide +kernel
theorem dX12_thrown_1 : decode cX12_thrown 1 = .ok (.getfield 51, 3) := by decide +kernel
theorem dX12_thrown_4 : decode cX12_thrown 4 = .ok (.ireturn, 1) := by decide +kernel
theorem dX12_type_0 : decode cX12_type 0 = .ok (.aload_n 0, 1) := by decide +kernel
theorem dX12_type_1 : decode cX12_type 1 = .ok (.iconst 0, 1) := by decide +kernel
theorem dX12_type_2 : decode cX12_type 2 = .ok (.putfield 51, 3) := by decide +kernel
theorem dX12_type_5 : decode cX12_type 5 = .ok (.iload_n 2, 1) := by decide +kernel
theorem dX12_type_6 : decode cX12_type 6 = .ok (.iconst 1, 1) := by decide +kernel
theorem dX12_type_7 : decode cX12_type 7 = .ok (.if_icmp .lt 8, 3) := by decide +kernel
theorem dX12_type_10 : decode cX12_type 10 = .ok (.iload_n 2, 1) := by decide +kernel
theorem dX12_type_11 : decode cX12_type 11 = .ok (.iconst 4, 1) := by decide +kernel
theorem dX12_type_12 : decode cX12_type 12 = .ok (.if_icmp .le 6, 3) := by decide +kernel
theorem dX12_type_15 : decode cX12_type 15 = .ok (.bipush (-12), 2) := by decide +kernel
theorem dX12_type_17 : decode cX12_type 17 = .ok (.ireturn, 1) := by decide +kernel
theorem dX12_type_18 : decode cX12_type 18 = .ok (.aload_n 0, 1) := by decide +kernel
theorem dX12_type_19 : decode cX12_type 19 = .ok (.getfield 48, 3) := by decide +kernel
theorem dX12_type_22 : decode cX12_type 22 = .ok (.iload_n 2, 1) := by decide +kernel
theorem dX12_type_23 : decode cX12_type 23 = .ok (.iadd, 1) := by decide +kernel
theorem dX12_type_24 : decode cX12_type 24 = .ok (.sipush 8000, 3) := by decide +kernel
theorem dX12_type_27 : decode cX12_type 27 = .ok (.if_icmp .le 6, 3) := by decide +kernel
theorem dX12_type_30 : decode cX12_type 30 = .ok (.bipush (-14), 2) := by decide +kernel
theorem dX12_type_32 : decode cX12_type 32 = .ok (.ireturn, 1) := by decide +kernel
theorem dX12_type_33 : decode cX12_type 33 = .ok (.iload_n 2, 1) := by decide +kernel
theorem dX12_type_34 : decode cX12_type 34 = .ok (.iconst 1, 1) := by decide +kernel
theorem dX12_type_35 : decode cX12_type 35 = .ok (.isub, 1) := by decide +kernel
theorem dX12_type_36 : decode cX12_type 36 = .ok (.istore_n 3, 1) := by decide +kernel
theorem dX12_type_37 : decode cX12_type 37 = .ok (.iload_n 3, 1) := by decide +kernel
theorem dX12_type_38 : decode cX12_type 38 = .ok (.ifCond .lt 35, 3) := by decide +kernel
theorem dX12_type_41 : decode cX12_type 41 = .ok (.aload_n 0, 1) := by decide +kernel
theorem dX12_type_42 : decode cX12_type 42 = .ok (.getfield 7, 3) := by decide +kernel
theorem dX12_type_45 : decode cX12_type 45 = .ok (.aload_n 0, 1) := by decide +kernel
theorem dX12_type_46 : decode cX12_type 46 = .ok (.getfield 48, 3) := by decide +kernel
theorem dX12_type_49 : decode cX12_type 49 = .ok (.iload_n 1, 1) := by decide +kernel
theorem dX12_type_50 : decode cX12_type 50 = .ok (.bipush 8, 2) := by decide +kernel
theorem dX12_type_52 : decode cX12_type 52 = .ok (.iload_n 3, 1) := by decide +kernel
theorem dX12_type_53 : decode cX12_type 53 = .ok (.imul, 1) := by decide +kernel
theorem dX12_type_54 : decode cX12_type 54 = .ok (.ishr, 1) := by decide +kernel
theorem dX12_type_55 : decode cX12_type 55 = .ok (.i2b, 1) := by decide +kernel
theorem dX12_type_56 : decode cX12_type 56 = .ok (.bastore, 1) := by decide +kernel
theorem dX12_type_57 : decode cX12_type 57 = .ok (.aload_n 0, 1) := by decide +kernel
theorem dX12_type_58 : decode cX12_type 58 = .ok (.dup, 1) := by decide +kernel
theorem dX12_type_59 : decode cX12_type 59 = .ok (.getfield 48, 3) := by decide +kernel
theorem dX12_type_62 : decode cX12_type 62 = .ok (.iconst 1, 1) := by decide +kernel
theorem dX12_type_63 : decode cX12_type 63 = .ok (.iadd, 1) := by decide +kernel
theorem dX12_type_64 : decode cX12_type 64 = .ok (.putfield 48, 3) := by decide +kernel
theorem dX12_type_67 : decode cX12_type 67 = .ok (.iinc 3 (-1), 3) := by decide +kernel
theorem dX12_type_70 : decode cX12_type 70 = .ok (.goto (-33), 3) := by decide +kernel
theorem dX12_type_73 : decode cX12_type 73 = .ok (.aload_n 0, 1) := by decide +kernel
theorem dX12_type_74 : decode cX12_type 74 = .ok (.getfield 48, 3) := by decide +kernel
theorem dX12_type_77 : decode cX12_type 77 = .ok (.ireturn, 1) := by decide +kernel
theorem dX12_words_0 : decode cX12_words 0 = .ok (.aload_n 0, 1) := by decide +kernel
theorem dX12_words_1 : decode cX12_words 1 = .ok (.iconst 0, 1) := by decide +kernel
theorem dX12_words_2 : decode cX12_words 2 = .ok (.putfield 51, 3) := by decide +kernel
theorem dX12_words_5 : decode cX12_words 5 = .ok (.aload_n 0, 1) := by decide +kernel
theorem dX12_words_6 : decode cX12_words 6 = .ok (.getfield 48, 3) := by decide +kernel
theorem dX12_words_9 : decode cX12_words 9 = .ok (.bipush 16, 2) := by decide +kernel
theorem dX12_words_11 : decode cX12_words 11 = .ok (.iadd, 1) := by decide +kernel
theorem dX12_words_12 : decode cX12_words 12 = .ok (.sipush 8000, 3) := by decide +kernel
theorem dX12_words_15 : decode cX12_words 15 = .ok (.if_icmp .le 6, 3) := by decide +kernel
theorem dX12_words_18 : decode cX12_words 18 = .ok (.bipush (-14), 2) := by decide +kernel
theorem dX12_words_20 : decode cX12_words 20 = .ok (.ireturn, 1) := by decide +kernel
theorem dX12_words_21 : decode cX12_words 21 = .ok (.aload_n 0, 1) := by decide +kernel
theorem dX12_words_22 : decode cX12_words 22 = .ok (.iload_n 1, 1) := by decide +kernel
theorem dX12_words_23 : decode cX12_words 23 = .ok (.iconst 4, 1) := by decide +kernel
theorem dX12_words_24 : decode cX12_words 24 = .ok (.invokevirtual 54, 3) := by decide +kernel
theorem dX12_words_27 : decode cX12_words 27 = .ok (.pop, 1) := by decide +kernel
theorem dX12_words_28 : decode cX12_words 28 = .ok (.aload_n 0, 1) := by decide +kernel
theorem dX12_words_29 : decode cX12_words 29 = .ok (.iload_n 2, 1) := by decide +kernel
theorem dX12_words_30 : decode cX12_words 30 = .ok (.iconst 4, 1) := by decide +kernel
theorem dX12_words_31 : decode cX12_words 31 = .ok (.invokevirtual 54, 3) := by decide +kernel
theorem dX12_words_34 : decode cX12_words 34 = .ok (.pop, 1) := by decide +kernel
theorem dX12_words_35 : decode cX12_words 35 = .ok (.aload_n 0, 1) := by decide +kernel
theorem dX12_words_36 : decode cX12_words 36 = .ok (.iload_n 3, 1) := by decide +kernel
theorem dX12_words_37 : decode cX12_words 37 = .ok (.iconst 4, 1) := by decide +kernel
theorem dX12_words_38 : decode cX12_words 38 = .ok (.invokevirtual 54, 3) := by decide +kernel
theorem dX12_words_41 : decode cX12_words 41 = .ok (.pop, 1) := by decide +kernel
theorem dX12_words_42 : decode cX12_words 42 = .ok (.aload_n 0, 1) := by decide +kernel
theorem dX12_words_43 : decode cX12_words 43 = .ok (.iload 4, 2) := by decide +kernel
theorem dX12_words_45 : decode cX12_words 45 = .ok (.iconst 4, 1) := by decide +kernel
theorem dX12_words_46 : decode cX12_words 46 = .ok (.invokevirtual 54, 3) := by decide +kernel
theorem dX12_words_49 : decode cX12_words 49 = .ok (.ireturn, 1) := by decide +kernel
theorem dX12_byteAt_0 : decode cX12_byteAt 0 = .ok (.aload_n 0, 1) := by decide +kernel
theorem dX12_byteAt_1 : decode cX12_byteAt 1 = .ok (.getfield 7, 3) := by decide +kernel
theorem dX12_byteAt_4 : decode cX12_byteAt 4 = .ok (.iload_n 1, 1) := by decide +kernel
theorem dX12_byteAt_5 : decode cX12_byteAt 5 = .ok (.baload, 1) := by decide +kernel
theorem dX12_byteAt_6 : decode cX12_byteAt 6 = .ok (.sipush 255, 3) := by decide +kernel
theorem dX12_byteAt_9 : decode cX12_byteAt 9 = .ok (.iand, 1) := by decide +kernel
theorem dX12_byteAt_10 : decode cX12_byteAt 10 = .ok (.ireturn, 1) := by decide +kernel
theorem dX12_number_0 : decode cX12_number 0 = .ok (.aload_n 0, 1) := by decide +kernel
theorem dX12_number_1 : decode cX12_number 1 = .ok (.iload_n 1, 1) := by decide +kernel
theorem dX12_number_2 : decode cX12_number 2 = .ok (.invokevirtual 58, 3) := by decide +kernel
theorem dX12_number_5 : decode cX12_number 5 = .ok (.bipush 24, 2) := by decide +kernel
theorem dX12_number_7 : decode cX12_number 7 = .ok (.ishl, 1) := by decide +kernel
theorem dX12_number_8 : decode cX12_number 8 = .ok (.aload_n 0, 1) := by decide +kernel
theorem dX12_number_9 : decode cX12_number 9 = .ok (.iload_n 1, 1) := by decide +kernel
theorem dX12_number_10 : decode cX12_number 10 = .ok (.iconst 1, 1) := by decide +kernel
theorem dX12_number_11 : decode cX12_number 11 = .ok (.iadd, 1) := by decide +kernel
theorem dX12_number_12 : decode cX12_number 12 = .ok (.invokevirtual 58, 3) := by decide +kernel
theorem dX12_number_15 : decode cX12_number 15 = .ok (.bipush 16, 2) := by decide +kernel
theorem dX12_number_17 : decode cX12_number 17 = .ok (.ishl, 1) := by decide +kernel
theorem dX12_number_18 : decode cX12_number 18 = .ok (.ior, 1) := by decide +kernel
theorem dX12_number_19 : decode cX12_number 19 = .ok (.aload_n 0, 1) := by decide +kernel
theorem dX12_number_20 : decode cX12_number 20 = .ok (.iload_n 1, 1) := by decide +kernel
theorem dX12_number_21 : decode cX12_number 21 = .ok (.iconst 2, 1) := by decide +kernel
theorem dX12_number_22 : decode cX12_number 22 = .ok (.iadd, 1) := by decide +kernel
theorem dX12_number_23 : decode cX12_number 23 = .ok (.invokevirtual 58, 3) := by decide +kernel
theorem dX12_number_26 : decode cX12_number 26 = .ok (.bipush 8, 2) := by decide +kernel
theorem dX12_number_28 : decode cX12_number 28 = .ok (.ishl, 1) := by decide +kernel
theorem dX12_number_29 : decode cX12_number 29 = .ok (.ior, 1) := by decide +kernel
theorem dX12_number_30 : decode cX12_number 30 = .ok (.aload_n 0, 1) := by decide +kernel
theorem dX12_number_31 : decode cX12_number 31 = .ok (.iload_n 1, 1) := by decide +kernel
theorem dX12_number_32 : decode cX12_number 32 = .ok (.iconst 3, 1) := by decide +kernel
theorem dX12_number_33 : decode cX12_number 33 = .ok (.iadd, 1) := by decide +kernel
theorem dX12_number_34 : decode cX12_number 34 = .ok (.invokevirtual 58, 3) := by decide +kernel
theorem dX12_number_37 : decode cX12_number 37 = .ok (.ior, 1) := by decide +kernel
theorem dX12_number_38 : decode cX12_number 38 = .ok (.ireturn, 1) := by decide +kernel
theorem dX12_nextSum_0 : decode cX12_nextSum 0 = .ok (.iload_n 0, 1) := by decide +kernel
theorem dX12_nextSum_1 : decode cX12_nextSum 1 = .ok (.iload_n 1, 1) := by decide +kernel
theorem dX12_nextSum_2 : decode cX12_nextSum 2 = .ok (.ixor, 1) := by decide +kernel
theorem dX12_nextSum_3 : decode cX12_nextSum 3 = .ok (.sipush 255, 3) := by decide +kernel
theorem dX12_nextSum_6 : decode cX12_nextSum 6 = .ok (.iand, 1) := by decide +kernel
theorem dX12_nextSum_7 : decode cX12_nextSum 7 = .ok (.istore_n 2, 1) := by decide +kernel
theorem dX12_nextSum_8 : decode cX12_nextSum 8 = .ok (.iconst 0, 1) := by decide +kernel
theorem dX12_nextSum_9 : decode cX12_nextSum 9 = .ok (.istore_n 3, 1) := by decide +kernel
theorem dX12_nextSum_10 : decode cX12_nextSum 10 = .ok (.iload_n 3, 1) := by decide +kernel
theorem dX12_nextSum_11 : decode cX12_nextSum 11 = .ok (.bipush 8, 2) := by decide +kernel
theorem dX12_nextSum_13 : decode cX12_nextSum 13 = .ok (.if_icmp .ge 29, 3) := by decide +kernel
theorem dX12_nextSum_16 : decode cX12_nextSum 16 = .ok (.iload_n 2, 1) := by decide +kernel
theorem dX12_nextSum_17 : decode cX12_nextSum 17 = .ok (.iconst 1, 1) := by decide +kernel
theorem dX12_nextSum_18 : decode cX12_nextSum 18 = .ok (.iand, 1) := by decide +kernel
theorem dX12_nextSum_19 : decode cX12_nextSum 19 = .ok (.iconst 1, 1) := by decide +kernel
theorem dX12_nextSum_20 : decode cX12_nextSum 20 = .ok (.if_icmp .ne 12, 3) := by decide +kernel
theorem dX12_nextSum_23 : decode cX12_nextSum 23 = .ok (.iload_n 2, 1) := by decide +kernel
theorem dX12_nextSum_24 : decode cX12_nextSum 24 = .ok (.iconst 1, 1) := by decide +kernel
theorem dX12_nextSum_25 : decode cX12_nextSum 25 = .ok (.iushr, 1) := by decide +kernel
theorem dX12_nextSum_26 : decode cX12_nextSum 26 = .ok (.ldc 62, 2) := by decide +kernel
theorem dX12_nextSum_28 : decode cX12_nextSum 28 = .ok (.ixor, 1) := by decide +kernel
theorem dX12_nextSum_29 : decode cX12_nextSum 29 = .ok (.goto 6, 3) := by decide +kernel
theorem dX12_nextSum_32 : decode cX12_nextSum 32 = .ok (.iload_n 2, 1) := by decide +kernel
theorem dX12_nextSum_33 : decode cX12_nextSum 33 = .ok (.iconst 1, 1) := by decide +kernel
theorem dX12_nextSum_34 : decode cX12_nextSum 34 = .ok (.iushr, 1) := by decide +kernel
theorem dX12_nextSum_35 : decode cX12_nextSum 35 = .ok (.istore_n 2, 1) := by decide +kernel
theorem dX12_nextSum_36 : decode cX12_nextSum 36 = .ok (.iinc 3 1, 3) := by decide +kernel
theorem dX12_nextSum_39 : decode cX12_nextSum 39 = .ok (.goto (-29), 3) := by decide +kernel
theorem dX12_nextSum_42 : decode cX12_nextSum 42 = .ok (.iload_n 0, 1) := by decide +kernel
theorem dX12_nextSum_43 : decode cX12_nextSum 43 = .ok (.bipush 8, 2) := by decide +kernel
theorem dX12_nextSum_45 : decode cX12_nextSum 45 = .ok (.iushr, 1) := by decide +kernel
theorem dX12_nextSum_46 : decode cX12_nextSum 46 = .ok (.iload_n 2, 1) := by decide +kernel
theorem dX12_nextSum_47 : decode cX12_nextSum 47 = .ok (.ixor, 1) := by decide +kernel
theorem dX12_nextSum_48 : decode cX12_nextSum 48 = .ok (.ireturn, 1) := by decide +kernel
theorem dX12_bits_0 : decode cX12_bits 0 = .ok (.iconst 0, 1) := by decide +kernel
theorem dX12_bits_1 : decode cX12_bits 1 = .ok (.istore_n 2, 1) := by decide +kernel
theorem dX12_bits_2 : decode cX12_bits 2 = .ok (.iconst 0, 1) := by decide +kernel
theorem dX12_bits_3 : decode cX12_bits 3 = .ok (.istore_n 3, 1) := by decide +kernel
theorem dX12_bits_4 : decode cX12_bits 4 = .ok (.iload_n 3, 1) := by decide +kernel
theorem dX12_bits_5 : decode cX12_bits 5 = .ok (.iload_n 1, 1) := by decide +kernel
theorem dX12_bits_6 : decode cX12_bits 6 = .ok (.if_icmp .ge 105, 3) := by decide +kernel
theorem dX12_bits_9 : decode cX12_bits 9 = .ok (.aload_n 0, 1) := by decide +kernel
theorem dX12_bits_10 : decode cX12_bits 10 = .ok (.getfield 63, 3) := by decide +kernel
theorem dX12_bits_13 : decode cX12_bits 13 = .ok (.aload_n 0, 1) := by decide +kernel
theorem dX12_bits_14 : decode cX12_bits 14 = .ok (.getfield 66, 3) := by decide +kernel
theorem dX12_bits_17 : decode cX12_bits 17 = .ok (.if_icmp .lt 10, 3) := by decide +kernel
theorem dX12_bits_20 : decode cX12_bits 20 = .ok (.aload_n 0, 1) := by decide +kernel
theorem dX12_bits_21 : decode cX12_bits 21 = .ok (.iconst 1, 1) := by decide +kernel
theorem dX12_bits_22 : decode cX12_bits 22 = .ok (.putfield 69, 3) := by decide +kernel
theorem dX12_bits_25 : decode cX12_bits 25 = .ok (.iconst 0, 1) := by decide +kernel
theorem dX12_bits_26 : decode cX12_bits 26 = .ok (.ireturn, 1) := by decide +kernel
theorem dX12_bits_27 : decode cX12_bits 27 = .ok (.iload_n 2, 1) := by decide +kernel
theorem dX12_bits_28 : decode cX12_bits 28 = .ok (.aload_n 0, 1) := by decide +kernel
theorem dX12_bits_29 : decode cX12_bits 29 = .ok (.getfield 36, 3) := by decide +kernel
theorem dX12_bits_32 : decode cX12_bits 32 = .ok (.aload_n 0, 1) := by decide +kernel
theorem dX12_bits_33 : decode cX12_bits 33 = .ok (.getfield 63, 3) := by decide +kernel
theorem dX12_bits_36 : decode cX12_bits 36 = .ok (.baload, 1) := by decide +kernel
theorem dX12_bits_37 : decode cX12_bits 37 = .ok (.aload_n 0, 1) := by decide +kernel
theorem dX12_bits_38 : decode cX12_bits 38 = .ok (.getfield 73, 3) := by decide +kernel
theorem dX12_bits_41 : decode cX12_bits 41 = .ok (.ishr, 1) := by decide +kernel
theorem dX12_bits_42 : decode cX12_bits 42 = .ok (.iconst 1, 1) := by decide +kernel
theorem dX12_bits_43 : decode cX12_bits 43 = .ok (.iand, 1) := by decide +kernel
theorem dX12_bits_44 : decode cX12_bits 44 = .ok (.iload_n 3, 1) := by decide +kernel
theorem dX12_bits_45 : decode cX12_bits 45 = .ok (.ishl, 1) := by decide +kernel
theorem dX12_bits_46 : decode cX12_bits 46 = .ok (.ior, 1) := by decide +kernel
theorem dX12_bits_47 : decode cX12_bits 47 = .ok (.istore_n 2, 1) := by decide +kernel
theorem dX12_bits_48 : decode cX12_bits 48 = .ok (.aload_n 0, 1) := by decide +kernel
theorem dX12_bits_49 : decode cX12_bits 49 = .ok (.dup, 1) := by decide +kernel
theorem dX12_bits_50 : decode cX12_bits 50 = .ok (.getfield 73, 3) := by decide +kernel
theorem dX12_bits_53 : decode cX12_bits 53 = .ok (.iconst 1, 1) := by decide +kernel
theorem dX12_bits_54 : decode cX12_bits 54 = .ok (.iadd, 1) := by decide +kernel
theorem dX12_bits_55 : decode cX12_bits 55 = .ok (.putfield 73, 3) := by decide +kernel
theorem dX12_bits_58 : decode cX12_bits 58 = .ok (.aload_n 0, 1) := by decide +kernel
theorem dX12_bits_59 : decode cX12_bits 59 = .ok (.aload_n 0, 1) := by decide +kernel
theorem dX12_bits_60 : decode cX12_bits 60 = .ok (.getfield 73, 3) := by decide +kernel
theorem dX12_bits_63 : decode cX12_bits 63 = .ok (.bipush 8, 2) := by decide +kernel
theorem dX12_bits_65 : decode cX12_bits 65 = .ok (.if_icmp .ne 12, 3) := by decide +kernel
theorem dX12_bits_68 : decode cX12_bits 68 = .ok (.aload_n 0, 1) := by decide +kernel
theorem dX12_bits_69 : decode cX12_bits 69 = .ok (.getfield 63, 3) := by decide +kernel
theorem dX12_bits_72 : decode cX12_bits 72 = .ok (.iconst 1, 1) := by decide +kernel
