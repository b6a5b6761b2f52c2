theorem dX12_lay_2 : decode cX12_lay 2 = .ok (.iload_n 1, 1) := by decide +kernel
theorem dX12_lay_3 : decode cX12_lay 3 = .ok (.iconst 0, 1) := by decide +kernel
theorem dX12_lay_4 : decode cX12_lay 4 = .ok (.invokevirtual 173, 3) := by decide +kernel
theorem dX12_lay_7 : decode cX12_lay 7 = .ok (.istore_n 2, 1) := by decide +kernel
theorem dX12_lay_8 : decode cX12_lay 8 = .ok (.aload_n 0, 1) := by decide +kernel
theorem dX12_lay_9 : decode cX12_lay 9 = .ok (.iconst 0, 1) := by decide +kernel
theorem dX12_lay_10 : decode cX12_lay 10 = .ok (.iload_n 1, 1) := by decide +kernel
theorem dX12_lay_11 : decode cX12_lay 11 = .ok (.iconst 1, 1) := by decide +kernel
theorem dX12_lay_12 : decode cX12_lay 12 = .ok (.invokevirtual 173, 3) := by decide +kernel
theorem dX12_lay_15 : decode cX12_lay 15 = .ok (.istore_n 3, 1) := by decide +kernel
theorem dX12_lay_16 : decode cX12_lay 16 = .ok (.iconst 0, 1) := by decide +kernel
theorem dX12_lay_17 : decode cX12_lay 17 = .ok (.istore 4, 2) := by decide +kernel
theorem dX12_lay_19 : decode cX12_lay 19 = .ok (.iload 4, 2) := by decide +kernel
theorem dX12_lay_21 : decode cX12_lay 21 = .ok (.iload_n 2, 1) := by decide +kernel
theorem dX12_lay_22 : decode cX12_lay 22 = .ok (.iload_n 3, 1) := by decide +kernel
theorem dX12_lay_23 : decode cX12_lay 23 = .ok (.imul, 1) := by decide +kernel
theorem dX12_lay_24 : decode cX12_lay 24 = .ok (.if_icmp .ge 91, 3) := by decide +kernel
theorem dX12_lay_27 : decode cX12_lay 27 = .ok (.aload_n 0, 1) := by decide +kernel
theorem dX12_lay_28 : decode cX12_lay 28 = .ok (.getfield 225, 3) := by decide +kernel
theorem dX12_lay_31 : decode cX12_lay 31 = .ok (.aload_n 0, 1) := by decide +kernel
theorem dX12_lay_32 : decode cX12_lay 32 = .ok (.iconst 0, 1) := by decide +kernel
theorem dX12_lay_33 : decode cX12_lay 33 = .ok (.iload_n 1, 1) := by decide +kernel
theorem dX12_lay_34 : decode cX12_lay 34 = .ok (.iconst 3, 1) := by decide +kernel
theorem dX12_lay_35 : decode cX12_lay 35 = .ok (.invokevirtual 173, 3) := by decide +kernel
theorem dX12_lay_38 : decode cX12_lay 38 = .ok (.iload 4, 2) := by decide +kernel
theorem dX12_lay_40 : decode cX12_lay 40 = .ok (.iload_n 2, 1) := by decide +kernel
theorem dX12_lay_41 : decode cX12_lay 41 = .ok (.idiv, 1) := by decide +kernel
theorem dX12_lay_42 : decode cX12_lay 42 = .ok (.iadd, 1) := by decide +kernel
theorem dX12_lay_43 : decode cX12_lay 43 = .ok (.imul, 1) := by decide +kernel
theorem dX12_lay_44 : decode cX12_lay 44 = .ok (.aload_n 0, 1) := by decide +kernel
theorem dX12_lay_45 : decode cX12_lay 45 = .ok (.iconst 0, 1) := by decide +kernel
theorem dX12_lay_46 : decode cX12_lay 46 = .ok (.iload_n 1, 1) := by decide +kernel
theorem dX12_lay_47 : decode cX12_lay 47 = .ok (.iconst 2, 1) := by decide +kernel
theorem dX12_lay_48 : decode cX12_lay 48 = .ok (.invokevirtual 173, 3) := by decide +kernel
theorem dX12_lay_51 : decode cX12_lay 51 = .ok (.iadd, 1) := by decide +kernel
theorem dX12_lay_52 : decode cX12_lay 52 = .ok (.iload 4, 2) := by decide +kernel
theorem dX12_lay_54 : decode cX12_lay 54 = .ok (.iload_n 2, 1) := by decide +kernel
theorem dX12_lay_55 : decode cX12_lay 55 = .ok (.irem, 1) := by decide +kernel
theorem dX12_lay_56 : decode cX12_lay 56 = .ok (.iadd, 1) := by decide +kernel
theorem dX12_lay_57 : decode cX12_lay 57 = .ok (.istore 5, 2) := by decide +kernel
theorem dX12_lay_59 : decode cX12_lay 59 = .ok (.aload_n 0, 1) := by decide +kernel
theorem dX12_lay_60 : decode cX12_lay 60 = .ok (.getfield 24, 3) := by decide +kernel
theorem dX12_lay_63 : decode cX12_lay 63 = .ok (.sipush 256, 3) := by decide +kernel
theorem dX12_lay_66 : decode cX12_lay 66 = .ok (.iload_n 1, 1) := by decide +kernel
theorem dX12_lay_67 : decode cX12_lay 67 = .ok (.imul, 1) := by decide +kernel
theorem dX12_lay_68 : decode cX12_lay 68 = .ok (.iload 4, 2) := by decide +kernel
theorem dX12_lay_70 : decode cX12_lay 70 = .ok (.iadd, 1) := by decide +kernel
theorem dX12_lay_71 : decode cX12_lay 71 = .ok (.iaload, 1) := by decide +kernel
theorem dX12_lay_72 : decode cX12_lay 72 = .ok (.istore 6, 2) := by decide +kernel
theorem dX12_lay_74 : decode cX12_lay 74 = .ok (.aload_n 0, 1) := by decide +kernel
theorem dX12_lay_75 : decode cX12_lay 75 = .ok (.getfield 27, 3) := by decide +kernel
theorem dX12_lay_78 : decode cX12_lay 78 = .ok (.iload 5, 2) := by decide +kernel
theorem dX12_lay_80 : decode cX12_lay 80 = .ok (.aload_n 0, 1) := by decide +kernel
theorem dX12_lay_81 : decode cX12_lay 81 = .ok (.iconst 0, 1) := by decide +kernel
theorem dX12_lay_82 : decode cX12_lay 82 = .ok (.iload_n 1, 1) := by decide +kernel
theorem dX12_lay_83 : decode cX12_lay 83 = .ok (.iconst 5, 1) := by decide +kernel
theorem dX12_lay_84 : decode cX12_lay 84 = .ok (.invokevirtual 173, 3) := by decide +kernel
theorem dX12_lay_87 : decode cX12_lay 87 = .ok (.iconst 1, 1) := by decide +kernel
theorem dX12_lay_88 : decode cX12_lay 88 = .ok (.if_icmp .ne 18, 3) := by decide +kernel
theorem dX12_lay_91 : decode cX12_lay 91 = .ok (.iload 6, 2) := by decide +kernel
theorem dX12_lay_93 : decode cX12_lay 93 = .ok (.aload_n 0, 1) := by decide +kernel
theorem dX12_lay_94 : decode cX12_lay 94 = .ok (.getfield 27, 3) := by decide +kernel
theorem dX12_lay_97 : decode cX12_lay 97 = .ok (.iload 5, 2) := by decide +kernel
theorem dX12_lay_99 : decode cX12_lay 99 = .ok (.iaload, 1) := by decide +kernel
theorem dX12_lay_100 : decode cX12_lay 100 = .ok (.invokestatic 228, 3) := by decide +kernel
theorem dX12_lay_103 : decode cX12_lay 103 = .ok (.goto 5, 3) := by decide +kernel
theorem dX12_lay_106 : decode cX12_lay 106 = .ok (.iload 6, 2) := by decide +kernel
theorem dX12_lay_108 : decode cX12_lay 108 = .ok (.iastore, 1) := by decide +kernel
theorem dX12_lay_109 : decode cX12_lay 109 = .ok (.iinc 4 1, 3) := by decide +kernel
theorem dX12_lay_112 : decode cX12_lay 112 = .ok (.goto (-93), 3) := by decide +kernel
theorem dX12_lay_115 : decode cX12_lay 115 = .ok (.return_, 1) := by decide +kernel
theorem dX12_dispose_0 : decode cX12_dispose 0 = .ok (.aload_n 0, 1) := by decide +kernel
theorem dX12_dispose_1 : decode cX12_dispose 1 = .ok (.iconst 0, 1) := by decide +kernel
theorem dX12_dispose_2 : decode cX12_dispose 2 = .ok (.iload_n 1, 1) := by decide +kernel
theorem dX12_dispose_3 : decode cX12_dispose 3 = .ok (.iconst 0, 1) := by decide +kernel
theorem dX12_dispose_4 : decode cX12_dispose 4 = .ok (.invokevirtual 173, 3) := by decide +kernel
theorem dX12_dispose_7 : decode cX12_dispose 7 = .ok (.istore_n 2, 1) := by decide +kernel
theorem dX12_dispose_8 : decode cX12_dispose 8 = .ok (.aload_n 0, 1) := by decide +kernel
theorem dX12_dispose_9 : decode cX12_dispose 9 = .ok (.iconst 0, 1) := by decide +kernel
theorem dX12_dispose_10 : decode cX12_dispose 10 = .ok (.iload_n 1, 1) := by decide +kernel
theorem dX12_dispose_11 : decode cX12_dispose 11 = .ok (.iconst 1, 1) := by decide +kernel
theorem dX12_dispose_12 : decode cX12_dispose 12 = .ok (.invokevirtual 173, 3) := by decide +kernel
theorem dX12_dispose_15 : decode cX12_dispose 15 = .ok (.istore_n 3, 1) := by decide +kernel
theorem dX12_dispose_16 : decode cX12_dispose 16 = .ok (.iload_n 1, 1) := by decide +kernel
theorem dX12_dispose_17 : decode cX12_dispose 17 = .ok (.ifCond .ne 18, 3) := by decide +kernel
theorem dX12_dispose_20 : decode cX12_dispose 20 = .ok (.aload_n 0, 1) := by decide +kernel
theorem dX12_dispose_21 : decode cX12_dispose 21 = .ok (.iconst 0, 1) := by decide +kernel
theorem dX12_dispose_22 : decode cX12_dispose 22 = .ok (.iload_n 1, 1) := by decide +kernel
theorem dX12_dispose_23 : decode cX12_dispose 23 = .ok (.iconst 4, 1) := by decide +kernel
theorem dX12_dispose_24 : decode cX12_dispose 24 = .ok (.invokevirtual 173, 3) := by decide +kernel
theorem dX12_dispose_27 : decode cX12_dispose 27 = .ok (.iconst 2, 1) := by decide +kernel
theorem dX12_dispose_28 : decode cX12_dispose 28 = .ok (.if_icmp .ne 7, 3) := by decide +kernel
theorem dX12_dispose_31 : decode cX12_dispose 31 = .ok (.iconst 1, 1) := by decide +kernel
theorem dX12_dispose_32 : decode cX12_dispose 32 = .ok (.goto 10, 3) := by decide +kernel
theorem dX12_dispose_35 : decode cX12_dispose 35 = .ok (.aload_n 0, 1) := by decide +kernel
theorem dX12_dispose_36 : decode cX12_dispose 36 = .ok (.iconst 0, 1) := by decide +kernel
theorem dX12_dispose_37 : decode cX12_dispose 37 = .ok (.iload_n 1, 1) := by decide +kernel
theorem dX12_dispose_38 : decode cX12_dispose 38 = .ok (.iconst 4, 1) := by decide +kernel
theorem dX12_dispose_39 : decode cX12_dispose 39 = .ok (.invokevirtual 173, 3) := by decide +kernel
theorem dX12_dispose_42 : decode cX12_dispose 42 = .ok (.istore 4, 2) := by decide +kernel
theorem dX12_dispose_44 : decode cX12_dispose 44 = .ok (.iconst 0, 1) := by decide +kernel
theorem dX12_dispose_45 : decode cX12_dispose 45 = .ok (.istore 5, 2) := by decide +kernel
theorem dX12_dispose_47 : decode cX12_dispose 47 = .ok (.iload 5, 2) := by decide +kernel
theorem dX12_dispose_49 : decode cX12_dispose 49 = .ok (.iload_n 2, 1) := by decide +kernel
theorem dX12_dispose_50 : decode cX12_dispose 50 = .ok (.iload_n 3, 1) := by decide +kernel
theorem dX12_dispose_51 : decode cX12_dispose 51 = .ok (.imul, 1) := by decide +kernel
theorem dX12_dispose_52 : decode cX12_dispose 52 = .ok (.if_icmp .ge 70, 3) := by decide +kernel
theorem dX12_dispose_55 : decode cX12_dispose 55 = .ok (.iload 4, 2) := by decide +kernel
theorem dX12_dispose_57 : decode cX12_dispose 57 = .ok (.ifCond .le 65, 3) := by decide +kernel
theorem dX12_dispose_60 : decode cX12_dispose 60 = .ok (.aload_n 0, 1) := by decide +kernel
theorem dX12_dispose_61 : decode cX12_dispose 61 = .ok (.getfield 225, 3) := by decide +kernel
theorem dX12_dispose_64 : decode cX12_dispose 64 = .ok (.aload_n 0, 1) := by decide +kernel
theorem dX12_dispose_65 : decode cX12_dispose 65 = .ok (.iconst 0, 1) := by decide +kernel
theorem dX12_dispose_66 : decode cX12_dispose 66 = .ok (.iload_n 1, 1) := by decide +kernel
theorem dX12_dispose_67 : decode cX12_dispose 67 = .ok (.iconst 3, 1) := by decide +kernel
theorem dX12_dispose_68 : decode cX12_dispose 68 = .ok (.invokevirtual 173, 3) := by decide +kernel
theorem dX12_dispose_71 : decode cX12_dispose 71 = .ok (.iload 5, 2) := by decide +kernel
theorem dX12_dispose_73 : decode cX12_dispose 73 = .ok (.iload_n 2, 1) := by decide +kernel
theorem dX12_dispose_74 : decode cX12_dispose 74 = .ok (.idiv, 1) := by decide +kernel
theorem dX12_dispose_75 : decode cX12_dispose 75 = .ok (.iadd, 1) := by decide +kernel
theorem dX12_dispose_76 : decode cX12_dispose 76 = .ok (.imul, 1) := by decide +kernel
theorem dX12_dispose_77 : decode cX12_dispose 77 = .ok (.aload_n 0, 1) := by decide +kernel
theorem dX12_dispose_78 : decode cX12_dispose 78 = .ok (.iconst 0, 1) := by decide +kernel
theorem dX12_dispose_79 : decode cX12_dispose 79 = .ok (.iload_n 1, 1) := by decide +kernel
theorem dX12_dispose_80 : decode cX12_dispose 80 = .ok (.iconst 2, 1) := by decide +kernel
theorem dX12_dispose_81 : decode cX12_dispose 81 = .ok (.invokevirtual 173, 3) := by decide +kernel
theorem dX12_dispose_84 : decode cX12_dispose 84 = .ok (.iadd, 1) := by decide +kernel
theorem dX12_dispose_85 : decode cX12_dispose 85 = .ok (.iload 5, 2) := by decide +kernel
theorem dX12_dispose_87 : decode cX12_dispose 87 = .ok (.iload_n 2, 1) := by decide +kernel
theorem dX12_dispose_88 : decode cX12_dispose 88 = .ok (.irem, 1) := by decide +kernel
theorem dX12_dispose_89 : decode cX12_dispose 89 = .ok (.iadd, 1) := by decide +kernel
theorem dX12_dispose_90 : decode cX12_dispose 90 = .ok (.istore 6, 2) := by decide +kernel
theorem dX12_dispose_92 : decode cX12_dispose 92 = .ok (.aload_n 0, 1) := by decide +kernel
theorem dX12_dispose_93 : decode cX12_dispose 93 = .ok (.getfield 27, 3) := by decide +kernel
theorem dX12_dispose_96 : decode cX12_dispose 96 = .ok (.iload 6, 2) := by decide +kernel
theorem dX12_dispose_98 : decode cX12_dispose 98 = .ok (.iload 4, 2) := by decide +kernel
theorem dX12_dispose_100 : decode cX12_dispose 100 = .ok (.iconst 1, 1) := by decide +kernel
theorem dX12_dispose_101 : decode cX12_dispose 101 = .ok (.if_icmp .ne 7, 3) := by decide +kernel
theorem dX12_dispose_104 : decode cX12_dispose 104 = .ok (.iconst 0, 1) := by decide +kernel
theorem dX12_dispose_105 : decode cX12_dispose 105 = .ok (.goto 10, 3) := by decide +kernel
theorem dX12_dispose_108 : decode cX12_dispose 108 = .ok (.aload_n 0, 1) := by decide +kernel
theorem dX12_dispose_109 : decode cX12_dispose 109 = .ok (.getfield 30, 3) := by decide +kernel
theorem dX12_dispose_112 : decode cX12_dispose 112 = .ok (.iload 6, 2) := by decide +kernel
theorem dX12_dispose_114 : decode cX12_dispose 114 = .ok (.iaload, 1) := by decide +kernel
theorem dX12_dispose_115 : decode cX12_dispose 115 = .ok (.iastore, 1) := by decide +kernel
theorem dX12_dispose_116 : decode cX12_dispose 116 = .ok (.iinc 5 1, 3) := by decide +kernel
theorem dX12_dispose_119 : decode cX12_dispose 119 = .ok (.goto (-72), 3) := by decide +kernel
theorem dX12_dispose_122 : decode cX12_dispose 122 = .ok (.return_, 1) := by decide +kernel
theorem dX12_show_0 : decode cX12_show 0 = .ok (.aload_n 0, 1) := by decide +kernel
theorem dX12_show_1 : decode cX12_show 1 = .ok (.iconst 0, 1) := by decide +kernel
theorem dX12_show_2 : decode cX12_show 2 = .ok (.putfield 51, 3) := by decide +kernel
theorem dX12_show_5 : decode cX12_show 5 = .ok (.aload_n 0, 1) := by decide +kernel
theorem dX12_show_6 : decode cX12_show 6 = .ok (.getfield 17, 3) := by decide +kernel
theorem dX12_show_9 : decode cX12_show 9 = .ok (.iconst 0, 1) := by decide +kernel
theorem dX12_show_10 : decode cX12_show 10 = .ok (.iaload, 1) := by decide +kernel
theorem dX12_show_11 : decode cX12_show 11 = .ok (.ifCond .eq 18, 3) := by decide +kernel
theorem dX12_show_14 : decode cX12_show 14 = .ok (.iload_n 1, 1) := by decide +kernel
theorem dX12_show_15 : decode cX12_show 15 = .ok (.iconst (-1), 1) := by decide +kernel
theorem dX12_show_16 : decode cX12_show 16 = .ok (.if_icmp .lt 13, 3) := by decide +kernel
theorem dX12_show_19 : decode cX12_show 19 = .ok (.iload_n 1, 1) := by decide +kernel
theorem dX12_show_20 : decode cX12_show 20 = .ok (.aload_n 0, 1) := by decide +kernel
theorem dX12_show_21 : decode cX12_show 21 = .ok (.getfield 17, 3) := by decide +kernel
theorem dX12_show_24 : decode cX12_show 24 = .ok (.iconst 4, 1) := by decide +kernel
theorem dX12_show_25 : decode cX12_show 25 = .ok (.iaload, 1) := by decide +kernel
theorem dX12_show_26 : decode cX12_show 26 = .ok (.if_icmp .lt 6, 3) := by decide +kernel
theorem dX12_show_29 : decode cX12_show 29 = .ok (.bipush (-11), 2) := by decide +kernel
theorem dX12_show_31 : decode cX12_show 31 = .ok (.ireturn, 1) := by decide +kernel
theorem dX12_show_32 : decode cX12_show 32 = .ok (.aload_n 0, 1) := by decide +kernel
theorem dX12_show_33 : decode cX12_show 33 = .ok (.iconst 1, 1) := by decide +kernel
theorem dX12_show_34 : decode cX12_show 34 = .ok (.putfield 219, 3) := by decide +kernel
theorem dX12_show_37 : decode cX12_show 37 = .ok (.aload_n 0, 1) := by decide +kernel
theorem dX12_show_38 : decode cX12_show 38 = .ok (.aload_n 0, 1) := by decide +kernel
theorem dX12_show_39 : decode cX12_show 39 = .ok (.getfield 17, 3) := by decide +kernel
theorem dX12_show_42 : decode cX12_show 42 = .ok (.iconst 1, 1) := by decide +kernel
theorem dX12_show_43 : decode cX12_show 43 = .ok (.iaload, 1) := by decide +kernel
theorem dX12_show_44 : decode cX12_show 44 = .ok (.putfield 225, 3) := by decide +kernel
theorem dX12_show_47 : decode cX12_show 47 = .ok (.aload_n 0, 1) := by decide +kernel
theorem dX12_show_48 : decode cX12_show 48 = .ok (.aload_n 0, 1) := by decide +kernel
theorem dX12_show_49 : decode cX12_show 49 = .ok (.getfield 17, 3) := by decide +kernel
theorem dX12_show_52 : decode cX12_show 52 = .ok (.iconst 2, 1) := by decide +kernel
theorem dX12_show_53 : decode cX12_show 53 = .ok (.iaload, 1) := by decide +kernel
theorem dX12_show_54 : decode cX12_show 54 = .ok (.putfield 231, 3) := by decide +kernel
theorem dX12_show_57 : decode cX12_show 57 = .ok (.iconst 0, 1) := by decide +kernel
theorem dX12_show_58 : decode cX12_show 58 = .ok (.istore_n 2, 1) := by decide +kernel
theorem dX12_show_59 : decode cX12_show 59 = .ok (.iload_n 2, 1) := by decide +kernel
theorem dX12_show_60 : decode cX12_show 60 = .ok (.sipush 256, 3) := by decide +kernel
theorem dX12_show_63 : decode cX12_show 63 = .ok (.if_icmp .ge 51, 3) := by decide +kernel
theorem dX12_show_66 : decode cX12_show 66 = .ok (.aload_n 0, 1) := by decide +kernel
theorem dX12_show_67 : decode cX12_show 67 = .ok (.getfield 27, 3) := by decide +kernel
theorem dX12_show_70 : decode cX12_show 70 = .ok (.iload_n 2, 1) := by decide +kernel
theorem dX12_show_71 : decode cX12_show 71 = .ok (.iload_n 1, 1) := by decide +kernel
theorem dX12_show_72 : decode cX12_show 72 = .ok (.iconst (-1), 1) := by decide +kernel
theorem dX12_show_73 : decode cX12_show 73 = .ok (.if_icmp .ne 33, 3) := by decide +kernel
theorem dX12_show_76 : decode cX12_show 76 = .ok (.aload_n 0, 1) := by decide +kernel
theorem dX12_show_77 : decode cX12_show 77 = .ok (.getfield 24, 3) := by decide +kernel
theorem dX12_show_80 : decode cX12_show 80 = .ok (.sipush 256, 3) := by decide +kernel
theorem dX12_show_83 : decode cX12_show 83 = .ok (.aload_n 0, 1) := by decide +kernel
theorem dX12_show_84 : decode cX12_show 84 = .ok (.getfield 17, 3) := by decide +kernel
theorem dX12_show_87 : decode cX12_show 87 = .ok (.iconst 5, 1) := by decide +kernel
theorem dX12_show_88 : decode cX12_show 88 = .ok (.iaload, 1) := by decide +kernel
theorem dX12_show_89 : decode cX12_show 89 = .ok (.iconst 1, 1) := by decide +kernel
theorem dX12_show_90 : decode cX12_show 90 = .ok (.if_icmp .ne 7, 3) := by decide +kernel
theorem dX12_show_93 : decode cX12_show 93 = .ok (.iconst 0, 1) := by decide +kernel
theorem dX12_show_94 : decode cX12_show 94 = .ok (.goto 5, 3) := by decide +kernel
theorem dX12_show_97 : decode cX12_show 97 = .ok (.bipush 8, 2) := by decide +kernel
theorem dX12_show_99 : decode cX12_show 99 = .ok (.imul, 1) := by decide +kernel
theorem dX12_show_100 : decode cX12_show 100 = .ok (.iload_n 2, 1) := by decide +kernel
theorem dX12_show_101 : decode cX12_show 101 = .ok (.iadd, 1) := by decide +kernel
theorem dX12_show_102 : decode cX12_show 102 = .ok (.iaload, 1) := by decide +kernel
theorem dX12_show_103 : decode cX12_show 103 = .ok (.goto 4, 3) := by decide +kernel
theorem dX12_show_106 : decode cX12_show 106 = .ok (.iconst 0, 1) := by decide +kernel
theorem dX12_show_107 : decode cX12_show 107 = .ok (.iastore, 1) := by decide +kernel
theorem dX12_show_108 : decode cX12_show 108 = .ok (.iinc 2 1, 3) := by decide +kernel
theorem dX12_show_111 : decode cX12_show 111 = .ok (.goto (-52), 3) := by decide +kernel
theorem dX12_show_114 : decode cX12_show 114 = .ok (.iconst 0, 1) := by decide +kernel
theorem dX12_show_115 : decode cX12_show 115 = .ok (.istore_n 2, 1) := by decide +kernel
theorem dX12_show_116 : decode cX12_show 116 = .ok (.iload_n 2, 1) := by decide +kernel
theorem dX12_show_117 : decode cX12_show 117 = .ok (.iload_n 1, 1) := by decide +kernel
theorem dX12_show_118 : decode cX12_show 118 = .ok (.if_icmp .gt 51, 3) := by decide +kernel
theorem dX12_show_121 : decode cX12_show 121 = .ok (.iconst 0, 1) := by decide +kernel
theorem dX12_show_122 : decode cX12_show 122 = .ok (.istore_n 3, 1) := by decide +kernel
theorem dX12_show_123 : decode cX12_show 123 = .ok (.iload_n 3, 1) := by decide +kernel
theorem dX12_show_124 : decode cX12_show 124 = .ok (.sipush 256, 3) := by decide +kernel
theorem dX12_show_127 : decode cX12_show 127 = .ok (.if_icmp .ge 21, 3) := by decide +kernel
theorem dX12_show_130 : decode cX12_show 130 = .ok (.aload_n 0, 1) := by decide +kernel
theorem dX12_show_131 : decode cX12_show 131 = .ok (.getfield 30, 3) := by decide +kernel
theorem dX12_show_134 : decode cX12_show 134 = .ok (.iload_n 3, 1) := by decide +kernel
theorem dX12_show_135 : decode cX12_show 135 = .ok (.aload_n 0, 1) := by decide +kernel
theorem dX12_show_136 : decode cX12_show 136 = .ok (.getfield 27, 3) := by decide +kernel
theorem dX12_show_139 : decode cX12_show 139 = .ok (.iload_n 3, 1) := by decide +kernel
theorem dX12_show_140 : decode cX12_show 140 = .ok (.iaload, 1) := by decide +kernel
theorem dX12_show_141 : decode cX12_show 141 = .ok (.iastore, 1) := by decide +kernel
theorem dX12_show_142 : decode cX12_show 142 = .ok (.iinc 3 1, 3) := by decide +kernel
theorem dX12_show_145 : decode cX12_show 145 = .ok (.goto (-22), 3) := by decide +kernel
theorem dX12_show_148 : decode cX12_show 148 = .ok (.aload_n 0, 1) := by decide +kernel
theorem dX12_show_149 : decode cX12_show 149 = .ok (.iload_n 2, 1) := by decide +kernel
theorem dX12_show_150 : decode cX12_show 150 = .ok (.invokevirtual 234, 3) := by decide +kernel
theorem dX12_show_153 : decode cX12_show 153 = .ok (.iload_n 2, 1) := by decide +kernel
theorem dX12_show_154 : decode cX12_show 154 = .ok (.iload_n 1, 1) := by decide +kernel
theorem dX12_show_155 : decode cX12_show 155 = .ok (.if_icmp .ge 8, 3) := by decide +kernel
theorem dX12_show_158 : decode cX12_show 158 = .ok (.aload_n 0, 1) := by decide +kernel
theorem dX12_show_159 : decode cX12_show 159 = .ok (.iload_n 2, 1) := by decide +kernel
theorem dX12_show_160 : decode cX12_show 160 = .ok (.invokevirtual 237, 3) := by decide +kernel
theorem dX12_show_163 : decode cX12_show 163 = .ok (.iinc 2 1, 3) := by decide +kernel
theorem dX12_show_166 : decode cX12_show 166 = .ok (.goto (-50), 3) := by decide +kernel
theorem dX12_show_169 : decode cX12_show 169 = .ok (.iconst 1, 1) := by decide +kernel
theorem dX12_show_170 : decode cX12_show 170 = .ok (.ireturn, 1) := by decide +kernel
theorem dX12_pixel_0 : decode cX12_pixel 0 = .ok (.aload_n 0, 1) := by decide +kernel
theorem dX12_pixel_1 : decode cX12_pixel 1 = .ok (.aload_n 0, 1) := by decide +kernel
theorem dX12_pixel_2 : decode cX12_pixel 2 = .ok (.getfield 219, 3) := by decide +kernel
theorem dX12_pixel_5 : decode cX12_pixel 5 = .ok (.ifCond .eq 31, 3) := by decide +kernel
theorem dX12_pixel_8 : decode cX12_pixel 8 = .ok (.iload_n 1, 1) := by decide +kernel
theorem dX12_pixel_9 : decode cX12_pixel 9 = .ok (.ifCond .lt 27, 3) := by decide +kernel
theorem dX12_pixel_12 : decode cX12_pixel 12 = .ok (.iload_n 2, 1) := by decide +kernel
theorem dX12_pixel_13 : decode cX12_pixel 13 = .ok (.ifCond .lt 23, 3) := by decide +kernel
theorem dX12_pixel_16 : decode cX12_pixel 16 = .ok (.iload_n 1, 1) := by decide +kernel
theorem dX12_pixel_17 : decode cX12_pixel 17 = .ok (.aload_n 0, 1) := by decide +kernel
theorem dX12_pixel_18 : decode cX12_pixel 18 = .ok (.getfield 225, 3) := by decide +kernel
theorem dX12_pixel_21 : decode cX12_pixel 21 = .ok (.if_icmp .ge 15, 3) := by decide +kernel
theorem dX12_pixel_24 : decode cX12_pixel 24 = .ok (.iload_n 2, 1) := by decide +kernel
theorem dX12_pixel_25 : decode cX12_pixel 25 = .ok (.aload_n 0, 1) := by decide +kernel
theorem dX12_pixel_26 : decode cX12_pixel 26 = .ok (.getfield 231, 3) := by decide +kernel
theorem dX12_pixel_29 : decode cX12_pixel 29 = .ok (.if_icmp .ge 7, 3) := by decide +kernel
theorem dX12_pixel_32 : decode cX12_pixel 32 = .ok (.iconst 0, 1) := by decide +kernel
theorem dX12_pixel_33 : decode cX12_pixel 33 = .ok (.goto 4, 3) := by decide +kernel
theorem dX12_pixel_36 : decode cX12_pixel 36 = .ok (.iconst 1, 1) := by decide +kernel
theorem dX12_pixel_37 : decode cX12_pixel 37 = .ok (.putfield 51, 3) := by decide +kernel
theorem dX12_pixel_40 : decode cX12_pixel 40 = .ok (.aload_n 0, 1) := by decide +kernel
theorem dX12_pixel_41 : decode cX12_pixel 41 = .ok (.getfield 51, 3) := by decide +kernel
theorem dX12_pixel_44 : decode cX12_pixel 44 = .ok (.ifCond .le 7, 3) := by decide +kernel
theorem dX12_pixel_47 : decode cX12_pixel 47 = .ok (.iconst 0, 1) := by decide +kernel
theorem dX12_pixel_48 : decode cX12_pixel 48 = .ok (.goto 16, 3) := by decide +kernel
theorem dX12_pixel_51 : decode cX12_pixel 51 = .ok (.aload_n 0, 1) := by decide +kernel
theorem dX12_pixel_52 : decode cX12_pixel 52 = .ok (.getfield 27, 3) := by decide +kernel
theorem dX12_pixel_55 : decode cX12_pixel 55 = .ok (.aload_n 0, 1) := by decide +kernel
theorem dX12_pixel_56 : decode cX12_pixel 56 = .ok (.getfield 225, 3) := by decide +kernel
theorem dX12_pixel_59 : decode cX12_pixel 59 = .ok (.iload_n 2, 1) := by decide +kernel
theorem dX12_pixel_60 : decode cX12_pixel 60 = .ok (.imul, 1) := by decide +kernel
theorem dX12_pixel_61 : decode cX12_pixel 61 = .ok (.iload_n 1, 1) := by decide +kernel
theorem dX12_pixel_62 : decode cX12_pixel 62 = .ok (.iadd, 1) := by decide +kernel
theorem dX12_pixel_63 : decode cX12_pixel 63 = .ok (.iaload, 1) := by decide +kernel
theorem dX12_pixel_64 : decode cX12_pixel 64 = .ok (.ireturn, 1) := by decide +kernel
theorem dX12_put_0 : decode cX12_put 0 = .ok (.aload_n 0, 1) := by decide +kernel
theorem dX12_put_1 : decode cX12_put 1 = .ok (.getfield 33, 3) := by decide +kernel
theorem dX12_put_4 : decode cX12_put 4 = .ok (.aload_n 0, 1) := by decide +kernel
theorem dX12_put_5 : decode cX12_put 5 = .ok (.getfield 240, 3) := by decide +kernel
theorem dX12_put_8 : decode cX12_put 8 = .ok (.iload_n 1, 1) := by decide +kernel
theorem dX12_put_9 : decode cX12_put 9 = .ok (.i2b, 1) := by decide +kernel
theorem dX12_put_10 : decode cX12_put 10 = .ok (.bastore, 1) := by decide +kernel
theorem dX12_put_11 : decode cX12_put 11 = .ok (.aload_n 0, 1) := by decide +kernel
theorem dX12_put_12 : decode cX12_put 12 = .ok (.dup, 1) := by decide +kernel
theorem dX12_put_13 : decode cX12_put 13 = .ok (.getfield 240, 3) := by decide +kernel
theorem dX12_put_16 : decode cX12_put 16 = .ok (.iconst 1, 1) := by decide +kernel
theorem dX12_put_17 : decode cX12_put 17 = .ok (.iadd, 1) := by decide +kernel
theorem dX12_put_18 : decode cX12_put 18 = .ok (.putfield 240, 3) := by decide +kernel
theorem dX12_put_21 : decode cX12_put 21 = .ok (.return_, 1) := by decide +kernel
theorem dX12_putNumber_0 : decode cX12_putNumber 0 = .ok (.aload_n 0, 1) := by decide +kernel
theorem dX12_putNumber_1 : decode cX12_putNumber 1 = .ok (.iload_n 1, 1) := by decide +kernel
theorem dX12_putNumber_2 : decode cX12_putNumber 2 = .ok (.bipush 24, 2) := by decide +kernel
theorem dX12_putNumber_4 : decode cX12_putNumber 4 = .ok (.ishr, 1) := by decide +kernel
theorem dX12_putNumber_5 : decode cX12_putNumber 5 = .ok (.invokevirtual 243, 3) := by decide +kernel
theorem dX12_putNumber_8 : decode cX12_putNumber 8 = .ok (.aload_n 0, 1) := by decide +kernel
theorem dX12_putNumber_9 : decode cX12_putNumber 9 = .ok (.iload_n 1, 1) := by decide +kernel
theorem dX12_putNumber_10 : decode cX12_putNumber 10 = .ok (.bipush 16, 2) := by decide +kernel
theorem dX12_putNumber_12 : decode cX12_putNumber 12 = .ok (.ishr, 1) := by decide +kernel
theorem dX12_putNumber_13 : decode cX12_putNumber 13 = .ok (.invokevirtual 243, 3) := by decide +kernel
theorem dX12_putNumber_16 : decode cX12_putNumber 16 = .ok (.aload_n 0, 1) := by decide +kernel
theorem dX12_putNumber_17 : decode cX12_putNumber 17 = .ok (.iload_n 1, 1) := by decide +kernel
theorem dX12_putNumber_18 : decode cX12_putNumber 18 = .ok (.bipush 8, 2) := by decide +kernel
theorem dX12_putNumber_20 : decode cX12_putNumber 20 = .ok (.ishr, 1) := by decide +kernel
theorem dX12_putNumber_21 : decode cX12_putNumber 21 = .ok (.invokevirtual 243, 3) := by decide +kernel
theorem dX12_putNumber_24 : decode cX12_putNumber 24 = .ok (.aload_n 0, 1) := by decide +kernel
theorem dX12_putNumber_25 : decode cX12_putNumber 25 = .ok (.iload_n 1, 1) := by decide +kernel
theorem dX12_putNumber_26 : decode cX12_putNumber 26 = .ok (.invokevirtual 243, 3) := by decide +kernel
theorem dX12_putNumber_29 : decode cX12_putNumber 29 = .ok (.return_, 1) := by decide +kernel
theorem dX12_beginChunk_0 : decode cX12_beginChunk 0 = .ok (.aload_n 0, 1) := by decide +kernel
theorem dX12_beginChunk_1 : decode cX12_beginChunk 1 = .ok (.getfield 240, 3) := by decide +kernel
theorem dX12_beginChunk_4 : decode cX12_beginChunk 4 = .ok (.istore 5, 2) := by decide +kernel
theorem dX12_beginChunk_6 : decode cX12_beginChunk 6 = .ok (.aload_n 0, 1) := by decide +kernel
theorem dX12_beginChunk_7 : decode cX12_beginChunk 7 = .ok (.iconst 0, 1) := by decide +kernel
theorem dX12_beginChunk_8 : decode cX12_beginChunk 8 = .ok (.invokevirtual 246, 3) := by decide +kernel
theorem dX12_beginChunk_11 : decode cX12_beginChunk 11 = .ok (.aload_n 0, 1) := by decide +kernel
theorem dX12_beginChunk_12 : decode cX12_beginChunk 12 = .ok (.iload_n 1, 1) := by decide +kernel
theorem dX12_beginChunk_13 : decode cX12_beginChunk 13 = .ok (.invokevirtual 243, 3) := by decide +kernel
theorem dX12_beginChunk_16 : decode cX12_beginChunk 16 = .ok (.aload_n 0, 1) := by decide +kernel
theorem dX12_beginChunk_17 : decode cX12_beginChunk 17 = .ok (.iload_n 2, 1) := by decide +kernel
theorem dX12_beginChunk_18 : decode cX12_beginChunk 18 = .ok (.invokevirtual 243, 3) := by decide +kernel
theorem dX12_beginChunk_21 : decode cX12_beginChunk 21 = .ok (.aload_n 0, 1) := by decide +kernel
theorem dX12_beginChunk_22 : decode cX12_beginChunk 22 = .ok (.iload_n 3, 1) := by decide +kernel
theorem dX12_beginChunk_23 : decode cX12_beginChunk 23 = .ok (.invokevirtual 243, 3) := by decide +kernel
theorem dX12_beginChunk_26 : decode cX12_beginChunk 26 = .ok (.aload_n 0, 1) := by decide +kernel
theorem dX12_beginChunk_27 : decode cX12_beginChunk 27 = .ok (.iload 4, 2) := by decide +kernel
theorem dX12_beginChunk_29 : decode cX12_beginChunk 29 = .ok (.invokevirtual 243, 3) := by decide +kernel
theorem dX12_beginChunk_32 : decode cX12_beginChunk 32 = .ok (.iload 5, 2) := by decide +kernel
theorem dX12_beginChunk_34 : decode cX12_beginChunk 34 = .ok (.ireturn, 1) := by decide +kernel
theorem dX12_endChunk_0 : decode cX12_endChunk 0 = .ok (.aload_n 0, 1) := by decide +kernel
theorem dX12_endChunk_1 : decode cX12_endChunk 1 = .ok (.getfield 240, 3) := by decide +kernel
theorem dX12_endChunk_4 : decode cX12_endChunk 4 = .ok (.iload_n 1, 1) := by decide +kernel
theorem dX12_endChunk_5 : decode cX12_endChunk 5 = .ok (.isub, 1) := by decide +kernel
theorem dX12_endChunk_6 : decode cX12_endChunk 6 = .ok (.bipush 8, 2) := by decide +kernel
theorem dX12_endChunk_8 : decode cX12_endChunk 8 = .ok (.isub, 1) := by decide +kernel
theorem dX12_endChunk_9 : decode cX12_endChunk 9 = .ok (.istore_n 2, 1) := by decide +kernel
theorem dX12_endChunk_10 : decode cX12_endChunk 10 = .ok (.iconst 0, 1) := by decide +kernel
theorem dX12_endChunk_11 : decode cX12_endChunk 11 = .ok (.istore_n 3, 1) := by decide +kernel
theorem dX12_endChunk_12 : decode cX12_endChunk 12 = .ok (.iload_n 3, 1) := by decide +kernel
theorem dX12_endChunk_13 : decode cX12_endChunk 13 = .ok (.iconst 4, 1) := by decide +kernel
theorem dX12_endChunk_14 : decode cX12_endChunk 14 = .ok (.if_icmp .ge 27, 3) := by decide +kernel
theorem dX12_endChunk_17 : decode cX12_endChunk 17 = .ok (.aload_n 0, 1) := by decide +kernel
theorem dX12_endChunk_18 : decode cX12_endChunk 18 = .ok (.getfield 33, 3) := by decide +kernel
theorem dX12_endChunk_21 : decode cX12_endChunk 21 = .ok (.iload_n 1, 1) := by decide +kernel
theorem dX12_endChunk_22 : decode cX12_endChunk 22 = .ok (.iload_n 3, 1) := by decide +kernel
theorem dX12_endChunk_23 : decode cX12_endChunk 23 = .ok (.iadd, 1) := by decide +kernel
theorem dX12_endChunk_24 : decode cX12_endChunk 24 = .ok (.iload_n 2, 1) := by decide +kernel
theorem dX12_endChunk_25 : decode cX12_endChunk 25 = .ok (.bipush 24, 2) := by decide +kernel
theorem dX12_endChunk_27 : decode cX12_endChunk 27 = .ok (.bipush 8, 2) := by decide +kernel
theorem dX12_endChunk_29 : decode cX12_endChunk 29 = .ok (.iload_n 3, 1) := by decide +kernel
theorem dX12_endChunk_30 : decode cX12_endChunk 30 = .ok (.imul, 1) := by decide +kernel
theorem dX12_endChunk_31 : decode cX12_endChunk 31 = .ok (.isub, 1) := by decide +kernel
theorem dX12_endChunk_32 : decode cX12_endChunk 32 = .ok (.ishr, 1) := by decide +kernel
theorem dX12_endChunk_33 : decode cX12_endChunk 33 = .ok (.i2b, 1) := by decide +kernel
theorem dX12_endChunk_34 : decode cX12_endChunk 34 = .ok (.bastore, 1) := by decide +kernel
theorem dX12_endChunk_35 : decode cX12_endChunk 35 = .ok (.iinc 3 1, 3) := by decide +kernel
theorem dX12_endChunk_38 : decode cX12_endChunk 38 = .ok (.goto (-26), 3) := by decide +kernel
theorem dX12_endChunk_41 : decode cX12_endChunk 41 = .ok (.iconst (-1), 1) := by decide +kernel
theorem dX12_endChunk_42 : decode cX12_endChunk 42 = .ok (.istore_n 3, 1) := by decide +kernel
theorem dX12_endChunk_43 : decode cX12_endChunk 43 = .ok (.iload_n 1, 1) := by decide +kernel
theorem dX12_endChunk_44 : decode cX12_endChunk 44 = .ok (.iconst 4, 1) := by decide +kernel
theorem dX12_endChunk_45 : decode cX12_endChunk 45 = .ok (.iadd, 1) := by decide +kernel
theorem dX12_endChunk_46 : decode cX12_endChunk 46 = .ok (.istore 4, 2) := by decide +kernel
theorem dX12_endChunk_48 : decode cX12_endChunk 48 = .ok (.iload 4, 2) := by decide +kernel
theorem dX12_endChunk_50 : decode cX12_endChunk 50 = .ok (.aload_n 0, 1) := by decide +kernel
theorem dX12_endChunk_51 : decode cX12_endChunk 51 = .ok (.getfield 240, 3) := by decide +kernel
theorem dX12_endChunk_54 : decode cX12_endChunk 54 = .ok (.if_icmp .ge 25, 3) := by decide +kernel
theorem dX12_endChunk_57 : decode cX12_endChunk 57 = .ok (.iload_n 3, 1) := by decide +kernel
theorem dX12_endChunk_58 : decode cX12_endChunk 58 = .ok (.aload_n 0, 1) := by decide +kernel
theorem dX12_endChunk_59 : decode cX12_endChunk 59 = .ok (.getfield 33, 3) := by decide +kernel
theorem dX12_endChunk_62 : decode cX12_endChunk 62 = .ok (.iload 4, 2) := by decide +kernel
theorem dX12_endChunk_64 : decode cX12_endChunk 64 = .ok (.baload, 1) := by decide +kernel
theorem dX12_endChunk_65 : decode cX12_endChunk 65 = .ok (.sipush 255, 3) := by decide +kernel
theorem dX12_endChunk_68 : decode cX12_endChunk 68 = .ok (.iand, 1) := by decide +kernel
theorem dX12_endChunk_69 : decode cX12_endChunk 69 = .ok (.invokestatic 203, 3) := by decide +kernel
theorem dX12_endChunk_72 : decode cX12_endChunk 72 = .ok (.istore_n 3, 1) := by decide +kernel
theorem dX12_endChunk_73 : decode cX12_endChunk 73 = .ok (.iinc 4 1, 3) := by decide +kernel
theorem dX12_endChunk_76 : decode cX12_endChunk 76 = .ok (.goto (-28), 3) := by decide +kernel
theorem dX12_endChunk_79 : decode cX12_endChunk 79 = .ok (.aload_n 0, 1) := by decide +kernel
theorem dX12_endChunk_80 : decode cX12_endChunk 80 = .ok (.iload_n 3, 1) := by decide +kernel
theorem dX12_endChunk_81 : decode cX12_endChunk 81 = .ok (.iconst (-1), 1) := by decide +kernel
theorem dX12_endChunk_82 : decode cX12_endChunk 82 = .ok (.ixor, 1) := by decide +kernel
theorem dX12_endChunk_83 : decode cX12_endChunk 83 = .ok (.invokevirtual 246, 3) := by decide +kernel
theorem dX12_endChunk_86 : decode cX12_endChunk 86 = .ok (.return_, 1) := by decide +kernel
theorem dX12_putControl_0 : decode cX12_putControl 0 = .ok (.aload_n 0, 1) := by decide +kernel
theorem dX12_putControl_1 : decode cX12_putControl 1 = .ok (.bipush 102, 2) := by decide +kernel
theorem dX12_putControl_3 : decode cX12_putControl 3 = .ok (.bipush 99, 2) := by decide +kernel
theorem dX12_putControl_5 : decode cX12_putControl 5 = .ok (.bipush 84, 2) := by decide +kernel
theorem dX12_putControl_7 : decode cX12_putControl 7 = .ok (.bipush 76, 2) := by decide +kernel
theorem dX12_putControl_9 : decode cX12_putControl 9 = .ok (.invokevirtual 249, 3) := by decide +kernel
theorem dX12_putControl_12 : decode cX12_putControl 12 = .ok (.istore_n 3, 1) := by decide +kernel
theorem dX12_putControl_13 : decode cX12_putControl 13 = .ok (.aload_n 0, 1) := by decide +kernel
theorem dX12_putControl_14 : decode cX12_putControl 14 = .ok (.iload_n 2, 1) := by decide +kernel
theorem dX12_putControl_15 : decode cX12_putControl 15 = .ok (.invokevirtual 246, 3) := by decide +kernel
theorem dX12_putControl_18 : decode cX12_putControl 18 = .ok (.iconst 0, 1) := by decide +kernel
theorem dX12_putControl_19 : decode cX12_putControl 19 = .ok (.istore 4, 2) := by decide +kernel
theorem dX12_putControl_21 : decode cX12_putControl 21 = .ok (.iload 4, 2) := by decide +kernel
theorem dX12_putControl_23 : decode cX12_putControl 23 = .ok (.iconst 4, 1) := by decide +kernel
theorem dX12_putControl_24 : decode cX12_putControl 24 = .ok (.if_icmp .ge 21, 3) := by decide +kernel
theorem dX12_putControl_27 : decode cX12_putControl 27 = .ok (.aload_n 0, 1) := by decide +kernel
theorem dX12_putControl_28 : decode cX12_putControl 28 = .ok (.aload_n 0, 1) := by decide +kernel
theorem dX12_putControl_29 : decode cX12_putControl 29 = .ok (.iconst 0, 1) := by decide +kernel
theorem dX12_putControl_30 : decode cX12_putControl 30 = .ok (.iload_n 1, 1) := by decide +kernel
theorem dX12_putControl_31 : decode cX12_putControl 31 = .ok (.iload 4, 2) := by decide +kernel
theorem dX12_putControl_33 : decode cX12_putControl 33 = .ok (.invokevirtual 173, 3) := by decide +kernel
theorem dX12_putControl_36 : decode cX12_putControl 36 = .ok (.invokevirtual 246, 3) := by decide +kernel
theorem dX12_putControl_39 : decode cX12_putControl 39 = .ok (.iinc 4 1, 3) := by decide +kernel
theorem dX12_putControl_42 : decode cX12_putControl 42 = .ok (.goto (-21), 3) := by decide +kernel
theorem dX12_putControl_45 : decode cX12_putControl 45 = .ok (.aload_n 0, 1) := by decide +kernel
theorem dX12_putControl_46 : decode cX12_putControl 46 = .ok (.iconst 0, 1) := by decide +kernel
theorem dX12_putControl_47 : decode cX12_putControl 47 = .ok (.invokevirtual 243, 3) := by decide +kernel
theorem dX12_putControl_50 : decode cX12_putControl 50 = .ok (.aload_n 0, 1) := by decide +kernel
theorem dX12_putControl_51 : decode cX12_putControl 51 = .ok (.iconst 1, 1) := by decide +kernel
theorem dX12_putControl_52 : decode cX12_putControl 52 = .ok (.invokevirtual 243, 3) := by decide +kernel
theorem dX12_putControl_55 : decode cX12_putControl 55 = .ok (.aload_n 0, 1) := by decide +kernel
theorem dX12_putControl_56 : decode cX12_putControl 56 = .ok (.iconst 0, 1) := by decide +kernel
theorem dX12_putControl_57 : decode cX12_putControl 57 = .ok (.invokevirtual 243, 3) := by decide +kernel
theorem dX12_putControl_60 : decode cX12_putControl 60 = .ok (.aload_n 0, 1) := by decide +kernel
theorem dX12_putControl_61 : decode cX12_putControl 61 = .ok (.bipush 10, 2) := by decide +kernel
theorem dX12_putControl_63 : decode cX12_putControl 63 = .ok (.invokevirtual 243, 3) := by decide +kernel
theorem dX12_putControl_66 : decode cX12_putControl 66 = .ok (.aload_n 0, 1) := by decide +kernel
theorem dX12_putControl_67 : decode cX12_putControl 67 = .ok (.aload_n 0, 1) := by decide +kernel
theorem dX12_putControl_68 : decode cX12_putControl 68 = .ok (.iconst 0, 1) := by decide +kernel
theorem dX12_putControl_69 : decode cX12_putControl 69 = .ok (.iload_n 1, 1) := by decide +kernel
theorem dX12_putControl_70 : decode cX12_putControl 70 = .ok (.iconst 4, 1) := by decide +kernel
theorem dX12_putControl_71 : decode cX12_putControl 71 = .ok (.invokevirtual 173, 3) := by decide +kernel
theorem dX12_putControl_74 : decode cX12_putControl 74 = .ok (.invokevirtual 243, 3) := by decide +kernel
theorem dX12_putControl_77 : decode cX12_putControl 77 = .ok (.aload_n 0, 1) := by decide +kernel
theorem dX12_putControl_78 : decode cX12_putControl 78 = .ok (.aload_n 0, 1) := by decide +kernel
theorem dX12_putControl_79 : decode cX12_putControl 79 = .ok (.iconst 0, 1) := by decide +kernel
theorem dX12_putControl_80 : decode cX12_putControl 80 = .ok (.iload_n 1, 1) := by decide +kernel
theorem dX12_putControl_81 : decode cX12_putControl 81 = .ok (.iconst 5, 1) := by decide +kernel
theorem dX12_putControl_82 : decode cX12_putControl 82 = .ok (.invokevirtual 173, 3) := by decide +kernel
theorem dX12_putControl_85 : decode cX12_putControl 85 = .ok (.invokevirtual 243, 3) := by decide +kernel
theorem dX12_putControl_88 : decode cX12_putControl 88 = .ok (.aload_n 0, 1) := by decide +kernel
theorem dX12_putControl_89 : decode cX12_putControl 89 = .ok (.iload_n 3, 1) := by decide +kernel
theorem dX12_putControl_90 : decode cX12_putControl 90 = .ok (.invokevirtual 253, 3) := by decide +kernel
theorem dX12_putControl_93 : decode cX12_putControl 93 = .ok (.return_, 1) := by decide +kernel
theorem dX12_putPicture_0 : decode cX12_putPicture 0 = .ok (.iload_n 3, 1) := by decide +kernel
theorem dX12_putPicture_1 : decode cX12_putPicture 1 = .ok (.iconst 1, 1) := by decide +kernel
theorem dX12_putPicture_2 : decode cX12_putPicture 2 = .ok (.iconst 4, 1) := by decide +kernel
theorem dX12_putPicture_3 : decode cX12_putPicture 3 = .ok (.iload_n 2, 1) := by decide +kernel
theorem dX12_putPicture_4 : decode cX12_putPicture 4 = .ok (.imul, 1) := by decide +kernel
theorem dX12_putPicture_5 : decode cX12_putPicture 5 = .ok (.iadd, 1) := by decide +kernel
theorem dX12_putPicture_6 : decode cX12_putPicture 6 = .ok (.imul, 1) := by decide +kernel
theorem dX12_putPicture_7 : decode cX12_putPicture 7 = .ok (.istore 4, 2) := by decide +kernel
theorem dX12_putPicture_9 : decode cX12_putPicture 9 = .ok (.aload_n 0, 1) := by decide +kernel
theorem dX12_putPicture_10 : decode cX12_putPicture 10 = .ok (.bipush 120, 2) := by decide +kernel
theorem dX12_putPicture_12 : decode cX12_putPicture 12 = .ok (.invokevirtual 243, 3) := by decide +kernel
theorem dX12_putPicture_15 : decode cX12_putPicture 15 = .ok (.aload_n 0, 1) := by decide +kernel
theorem dX12_putPicture_16 : decode cX12_putPicture 16 = .ok (.iconst 1, 1) := by decide +kernel
theorem dX12_putPicture_17 : decode cX12_putPicture 17 = .ok (.invokevirtual 243, 3) := by decide +kernel
theorem dX12_putPicture_20 : decode cX12_putPicture 20 = .ok (.aload_n 0, 1) := by decide +kernel
theorem dX12_putPicture_21 : decode cX12_putPicture 21 = .ok (.iconst 1, 1) := by decide +kernel
theorem dX12_putPicture_22 : decode cX12_putPicture 22 = .ok (.invokevirtual 243, 3) := by decide +kernel
theorem dX12_putPicture_25 : decode cX12_putPicture 25 = .ok (.aload_n 0, 1) := by decide +kernel
theorem dX12_putPicture_26 : decode cX12_putPicture 26 = .ok (.iload 4, 2) := by decide +kernel
theorem dX12_putPicture_28 : decode cX12_putPicture 28 = .ok (.invokevirtual 243, 3) := by decide +kernel
theorem dX12_putPicture_31 : decode cX12_putPicture 31 = .ok (.aload_n 0, 1) := by decide +kernel
theorem dX12_putPicture_32 : decode cX12_putPicture 32 = .ok (.iload 4, 2) := by decide +kernel
theorem dX12_putPicture_34 : decode cX12_putPicture 34 = .ok (.bipush 8, 2) := by decide +kernel
theorem dX12_putPicture_36 : decode cX12_putPicture 36 = .ok (.ishr, 1) := by decide +kernel
theorem dX12_putPicture_37 : decode cX12_putPicture 37 = .ok (.invokevirtual 243, 3) := by decide +kernel
theorem dX12_putPicture_40 : decode cX12_putPicture 40 = .ok (.aload_n 0, 1) := by decide +kernel
theorem dX12_putPicture_41 : decode cX12_putPicture 41 = .ok (.iload 4, 2) := by decide +kernel
theorem dX12_putPicture_43 : decode cX12_putPicture 43 = .ok (.iconst (-1), 1) := by decide +kernel
theorem dX12_putPicture_44 : decode cX12_putPicture 44 = .ok (.ixor, 1) := by decide +kernel
theorem dX12_putPicture_45 : decode cX12_putPicture 45 = .ok (.invokevirtual 243, 3) := by decide +kernel
theorem dX12_putPicture_48 : decode cX12_putPicture 48 = .ok (.aload_n 0, 1) := by decide +kernel
theorem dX12_putPicture_49 : decode cX12_putPicture 49 = .ok (.iload 4, 2) := by decide +kernel
theorem dX12_putPicture_51 : decode cX12_putPicture 51 = .ok (.iconst (-1), 1) := by decide +kernel
theorem dX12_putPicture_52 : decode cX12_putPicture 52 = .ok (.ixor, 1) := by decide +kernel
theorem dX12_putPicture_53 : decode cX12_putPicture 53 = .ok (.bipush 8, 2) := by decide +kernel
theorem dX12_putPicture_55 : decode cX12_putPicture 55 = .ok (.ishr, 1) := by decide +kernel
theorem dX12_putPicture_56 : decode cX12_putPicture 56 = .ok (.invokevirtual 243, 3) := by decide +kernel
theorem dX12_putPicture_59 : decode cX12_putPicture 59 = .ok (.aload_n 0, 1) := by decide +kernel
theorem dX12_putPicture_60 : decode cX12_putPicture 60 = .ok (.getfield 240, 3) := by decide +kernel
theorem dX12_putPicture_63 : decode cX12_putPicture 63 = .ok (.istore 5, 2) := by decide +kernel
theorem dX12_putPicture_65 : decode cX12_putPicture 65 = .ok (.iconst 0, 1) := by decide +kernel
theorem dX12_putPicture_66 : decode cX12_putPicture 66 = .ok (.istore 6, 2) := by decide +kernel
theorem dX12_putPicture_68 : decode cX12_putPicture 68 = .ok (.iload 6, 2) := by decide +kernel
theorem dX12_putPicture_70 : decode cX12_putPicture 70 = .ok (.iload_n 3, 1) := by decide +kernel
theorem dX12_putPicture_71 : decode cX12_putPicture 71 = .ok (.if_icmp .ge 51, 3) := by decide +kernel
theorem dX12_putPicture_74 : decode cX12_putPicture 74 = .ok (.aload_n 0, 1) := by decide +kernel
theorem dX12_putPicture_75 : decode cX12_putPicture 75 = .ok (.iconst 0, 1) := by decide +kernel
theorem dX12_putPicture_76 : decode cX12_putPicture 76 = .ok (.invokevirtual 243, 3) := by decide +kernel
theorem dX12_putPicture_79 : decode cX12_putPicture 79 = .ok (.iconst 0, 1) := by decide +kernel
theorem dX12_putPicture_80 : decode cX12_putPicture 80 = .ok (.istore 7, 2) := by decide +kernel
theorem dX12_putPicture_82 : decode cX12_putPicture 82 = .ok (.iload 7, 2) := by decide +kernel
theorem dX12_putPicture_84 : decode cX12_putPicture 84 = .ok (.iload_n 2, 1) := by decide +kernel
theorem dX12_putPicture_85 : decode cX12_putPicture 85 = .ok (.if_icmp .ge 31, 3) := by decide +kernel
theorem dX12_putPicture_88 : decode cX12_putPicture 88 = .ok (.aload_n 0, 1) := by decide +kernel
theorem dX12_putPicture_89 : decode cX12_putPicture 89 = .ok (.aload_n 0, 1) := by decide +kernel
theorem dX12_putPicture_90 : decode cX12_putPicture 90 = .ok (.getfield 24, 3) := by decide +kernel
theorem dX12_putPicture_93 : decode cX12_putPicture 93 = .ok (.sipush 256, 3) := by decide +kernel
theorem dX12_putPicture_96 : decode cX12_putPicture 96 = .ok (.iload_n 1, 1) := by decide +kernel
theorem dX12_putPicture_97 : decode cX12_putPicture 97 = .ok (.imul, 1) := by decide +kernel
theorem dX12_putPicture_98 : decode cX12_putPicture 98 = .ok (.iload_n 2, 1) := by decide +kernel
theorem dX12_putPicture_99 : decode cX12_putPicture 99 = .ok (.iload 6, 2) := by decide +kernel
theorem dX12_putPicture_101 : decode cX12_putPicture 101 = .ok (.imul, 1) := by decide +kernel
theorem dX12_putPicture_102 : decode cX12_putPicture 102 = .ok (.iadd, 1) := by decide +kernel
theorem dX12_putPicture_103 : decode cX12_putPicture 103 = .ok (.iload 7, 2) := by decide +kernel
theorem dX12_putPicture_105 : decode cX12_putPicture 105 = .ok (.iadd, 1) := by decide +kernel
theorem dX12_putPicture_106 : decode cX12_putPicture 106 = .ok (.iaload, 1) := by decide +kernel
theorem dX12_putPicture_107 : decode cX12_putPicture 107 = .ok (.invokevirtual 246, 3) := by decide +kernel
theorem dX12_putPicture_110 : decode cX12_putPicture 110 = .ok (.iinc 7 1, 3) := by decide +kernel
theorem dX12_putPicture_113 : decode cX12_putPicture 113 = .ok (.goto (-31), 3) := by decide +kernel
theorem dX12_putPicture_116 : decode cX12_putPicture 116 = .ok (.iinc 6 1, 3) := by decide +kernel
theorem dX12_putPicture_119 : decode cX12_putPicture 119 = .ok (.goto (-51), 3) := by decide +kernel
theorem dX12_putPicture_122 : decode cX12_putPicture 122 = .ok (.iconst 1, 1) := by decide +kernel
theorem dX12_putPicture_123 : decode cX12_putPicture 123 = .ok (.istore 6, 2) := by decide +kernel
theorem dX12_putPicture_125 : decode cX12_putPicture 125 = .ok (.iconst 0, 1) := by decide +kernel
theorem dX12_putPicture_126 : decode cX12_putPicture 126 = .ok (.istore 7, 2) := by decide +kernel
theorem dX12_putPicture_128 : decode cX12_putPicture 128 = .ok (.iload 5, 2) := by decide +kernel
theorem dX12_putPicture_130 : decode cX12_putPicture 130 = .ok (.istore 8, 2) := by decide +kernel
theorem dX12_putPicture_132 : decode cX12_putPicture 132 = .ok (.iload 8, 2) := by decide +kernel
theorem dX12_putPicture_134 : decode cX12_putPicture 134 = .ok (.aload_n 0, 1) := by decide +kernel
theorem dX12_putPicture_135 : decode cX12_putPicture 135 = .ok (.getfield 240, 3) := by decide +kernel
theorem dX12_putPicture_138 : decode cX12_putPicture 138 = .ok (.if_icmp .ge 38, 3) := by decide +kernel
theorem dX12_putPicture_141 : decode cX12_putPicture 141 = .ok (.iload 6, 2) := by decide +kernel
theorem dX12_putPicture_143 : decode cX12_putPicture 143 = .ok (.aload_n 0, 1) := by decide +kernel
theorem dX12_putPicture_144 : decode cX12_putPicture 144 = .ok (.getfield 33, 3) := by decide +kernel
theorem dX12_putPicture_147 : decode cX12_putPicture 147 = .ok (.iload 8, 2) := by decide +kernel
theorem dX12_putPicture_149 : decode cX12_putPicture 149 = .ok (.baload, 1) := by decide +kernel
theorem dX12_putPicture_150 : decode cX12_putPicture 150 = .ok (.sipush 255, 3) := by decide +kernel
theorem dX12_putPicture_153 : decode cX12_putPicture 153 = .ok (.iand, 1) := by decide +kernel
theorem dX12_putPicture_154 : decode cX12_putPicture 154 = .ok (.iadd, 1) := by decide +kernel
theorem dX12_putPicture_155 : decode cX12_putPicture 155 = .ok (.ldc 129, 2) := by decide +kernel
theorem dX12_putPicture_157 : decode cX12_putPicture 157 = .ok (.irem, 1) := by decide +kernel
theorem dX12_putPicture_158 : decode cX12_putPicture 158 = .ok (.istore 6, 2) := by decide +kernel
theorem dX12_putPicture_160 : decode cX12_putPicture 160 = .ok (.iload 7, 2) := by decide +kernel
theorem dX12_putPicture_162 : decode cX12_putPicture 162 = .ok (.iload 6, 2) := by decide +kernel
theorem dX12_putPicture_164 : decode cX12_putPicture 164 = .ok (.iadd, 1) := by decide +kernel
theorem dX12_putPicture_165 : decode cX12_putPicture 165 = .ok (.ldc 129, 2) := by decide +kernel
theorem dX12_putPicture_167 : decode cX12_putPicture 167 = .ok (.irem, 1) := by decide +kernel
theorem dX12_putPicture_168 : decode cX12_putPicture 168 = .ok (.istore 7, 2) := by decide +kernel
theorem dX12_putPicture_170 : decode cX12_putPicture 170 = .ok (.iinc 8 1, 3) := by decide +kernel
theorem dX12_putPicture_173 : decode cX12_putPicture 173 = .ok (.goto (-41), 3) := by decide +kernel
theorem dX12_putPicture_176 : decode cX12_putPicture 176 = .ok (.aload_n 0, 1) := by decide +kernel
theorem dX12_putPicture_177 : decode cX12_putPicture 177 = .ok (.iload 7, 2) := by decide +kernel
theorem dX12_putPicture_179 : decode cX12_putPicture 179 = .ok (.bipush 16, 2) := by decide +kernel
theorem dX12_putPicture_181 : decode cX12_putPicture 181 = .ok (.ishl, 1) := by decide +kernel
theorem dX12_putPicture_182 : decode cX12_putPicture 182 = .ok (.iload 6, 2) := by decide +kernel
theorem dX12_putPicture_184 : decode cX12_putPicture 184 = .ok (.ior, 1) := by decide +kernel
theorem dX12_putPicture_185 : decode cX12_putPicture 185 = .ok (.invokevirtual 246, 3) := by decide +kernel
theorem dX12_putPicture_188 : decode cX12_putPicture 188 = .ok (.return_, 1) := by decide +kernel
theorem dX12_write_0 : decode cX12_write 0 = .ok (.aload_n 0, 1) := by decide +kernel
theorem dX12_write_1 : decode cX12_write 1 = .ok (.iconst 0, 1) := by decide +kernel
theorem dX12_write_2 : decode cX12_write 2 = .ok (.putfield 51, 3) := by decide +kernel
theorem dX12_write_5 : decode cX12_write 5 = .ok (.aload_n 0, 1) := by decide +kernel
theorem dX12_write_6 : decode cX12_write 6 = .ok (.getfield 17, 3) := by decide +kernel
theorem dX12_write_9 : decode cX12_write 9 = .ok (.iconst 0, 1) := by decide +kernel
theorem dX12_write_10 : decode cX12_write 10 = .ok (.iaload, 1) := by decide +kernel
theorem dX12_write_11 : decode cX12_write 11 = .ok (.ifCond .eq 12, 3) := by decide +kernel
theorem dX12_write_14 : decode cX12_write 14 = .ok (.aload_n 0, 1) := by decide +kernel
theorem dX12_write_15 : decode cX12_write 15 = .ok (.getfield 17, 3) := by decide +kernel
theorem dX12_write_18 : decode cX12_write 18 = .ok (.iconst 4, 1) := by decide +kernel
theorem dX12_write_19 : decode cX12_write 19 = .ok (.iaload, 1) := by decide +kernel
theorem dX12_write_20 : decode cX12_write 20 = .ok (.ifCond .ne 6, 3) := by decide +kernel
theorem dX12_write_23 : decode cX12_write 23 = .ok (.bipush (-13), 2) := by decide +kernel
theorem dX12_write_25 : decode cX12_write 25 = .ok (.ireturn, 1) := by decide +kernel
theorem dX12_write_26 : decode cX12_write 26 = .ok (.aload_n 0, 1) := by decide +kernel
theorem dX12_write_27 : decode cX12_write 27 = .ok (.iconst 0, 1) := by decide +kernel
theorem dX12_write_28 : decode cX12_write 28 = .ok (.putfield 240, 3) := by decide +kernel
theorem dX12_write_31 : decode cX12_write 31 = .ok (.iconst 0, 1) := by decide +kernel
theorem dX12_write_32 : decode cX12_write 32 = .ok (.istore_n 1, 1) := by decide +kernel
theorem dX12_write_33 : decode cX12_write 33 = .ok (.iload_n 1, 1) := by decide +kernel
theorem dX12_write_34 : decode cX12_write 34 = .ok (.bipush 8, 2) := by decide +kernel
theorem dX12_write_36 : decode cX12_write 36 = .ok (.if_icmp .ge 17, 3) := by decide +kernel
theorem dX12_write_39 : decode cX12_write 39 = .ok (.aload_n 0, 1) := by decide +kernel
theorem dX12_write_40 : decode cX12_write 40 = .ok (.iload_n 1, 1) := by decide +kernel
theorem dX12_write_41 : decode cX12_write 41 = .ok (.invokestatic 200, 3) := by decide +kernel
theorem dX12_write_44 : decode cX12_write 44 = .ok (.invokevirtual 243, 3) := by decide +kernel
theorem dX12_write_47 : decode cX12_write 47 = .ok (.iinc 1 1, 3) := by decide +kernel
theorem dX12_write_50 : decode cX12_write 50 = .ok (.goto (-17), 3) := by decide +kernel
theorem dX12_write_53 : decode cX12_write 53 = .ok (.aload_n 0, 1) := by decide +kernel
theorem dX12_write_54 : decode cX12_write 54 = .ok (.bipush 73, 2) := by decide +kernel
theorem dX12_write_56 : decode cX12_write 56 = .ok (.bipush 72, 2) := by decide +kernel
theorem dX12_write_58 : decode cX12_write 58 = .ok (.bipush 68, 2) := by decide +kernel
theorem dX12_write_60 : decode cX12_write 60 = .ok (.bipush 82, 2) := by decide +kernel
theorem dX12_write_62 : decode cX12_write 62 = .ok (.invokevirtual 249, 3) := by decide +kernel
theorem dX12_write_65 : decode cX12_write 65 = .ok (.istore_n 1, 1) := by decide +kernel
theorem dX12_write_66 : decode cX12_write 66 = .ok (.aload_n 0, 1) := by decide +kernel
theorem dX12_write_67 : decode cX12_write 67 = .ok (.aload_n 0, 1) := by decide +kernel
theorem dX12_write_68 : decode cX12_write 68 = .ok (.getfield 17, 3) := by decide +kernel
theorem dX12_write_71 : decode cX12_write 71 = .ok (.iconst 1, 1) := by decide +kernel
theorem dX12_write_72 : decode cX12_write 72 = .ok (.iaload, 1) := by decide +kernel
theorem dX12_write_73 : decode cX12_write 73 = .ok (.invokevirtual 246, 3) := by decide +kernel
theorem dX12_write_76 : decode cX12_write 76 = .ok (.aload_n 0, 1) := by decide +kernel
theorem dX12_write_77 : decode cX12_write 77 = .ok (.aload_n 0, 1) := by decide +kernel
theorem dX12_write_78 : decode cX12_write 78 = .ok (.getfield 17, 3) := by decide +kernel
theorem dX12_write_81 : decode cX12_write 81 = .ok (.iconst 2, 1) := by decide +kernel
theorem dX12_write_82 : decode cX12_write 82 = .ok (.iaload, 1) := by decide +kernel
theorem dX12_write_83 : decode cX12_write 83 = .ok (.invokevirtual 246, 3) := by decide +kernel
theorem dX12_write_86 : decode cX12_write 86 = .ok (.aload_n 0, 1) := by decide +kernel
theorem dX12_write_87 : decode cX12_write 87 = .ok (.bipush 8, 2) := by decide +kernel
theorem dX12_write_89 : decode cX12_write 89 = .ok (.invokevirtual 243, 3) := by decide +kernel
theorem dX12_write_92 : decode cX12_write 92 = .ok (.aload_n 0, 1) := by decide +kernel
theorem dX12_write_93 : decode cX12_write 93 = .ok (.bipush 6, 2) := by decide +kernel
theorem dX12_write_95 : decode cX12_write 95 = .ok (.invokevirtual 243, 3) := by decide +kernel
theorem dX12_write_98 : decode cX12_write 98 = .ok (.aload_n 0, 1) := by decide +kernel
theorem dX12_write_99 : decode cX12_write 99 = .ok (.iconst 0, 1) := by decide +kernel
theorem dX12_write_100 : decode cX12_write 100 = .ok (.invokevirtual 243, 3) := by decide +kernel
theorem dX12_write_103 : decode cX12_write 103 = .ok (.aload_n 0, 1) := by decide +kernel
theorem dX12_write_104 : decode cX12_write 104 = .ok (.iconst 0, 1) := by decide +kernel
theorem dX12_write_105 : decode cX12_write 105 = .ok (.invokevirtual 243, 3) := by decide +kernel
theorem dX12_write_108 : decode cX12_write 108 = .ok (.aload_n 0, 1) := by decide +kernel
theorem dX12_write_109 : decode cX12_write 109 = .ok (.iconst 0, 1) := by decide +kernel
theorem dX12_write_110 : decode cX12_write 110 = .ok (.invokevirtual 243, 3) := by decide +kernel
theorem dX12_write_113 : decode cX12_write 113 = .ok (.aload_n 0, 1) := by decide +kernel
theorem dX12_write_114 : decode cX12_write 114 = .ok (.iload_n 1, 1) := by decide +kernel
theorem dX12_write_115 : decode cX12_write 115 = .ok (.invokevirtual 253, 3) := by decide +kernel
theorem dX12_write_118 : decode cX12_write 118 = .ok (.aload_n 0, 1) := by decide +kernel
theorem dX12_write_119 : decode cX12_write 119 = .ok (.bipush 97, 2) := by decide +kernel
theorem dX12_write_121 : decode cX12_write 121 = .ok (.bipush 99, 2) := by decide +kernel
theorem dX12_write_123 : decode cX12_write 123 = .ok (.bipush 84, 2) := by decide +kernel
theorem dX12_write_125 : decode cX12_write 125 = .ok (.bipush 76, 2) := by decide +kernel
theorem dX12_write_127 : decode cX12_write 127 = .ok (.invokevirtual 249, 3) := by decide +kernel
theorem dX12_write_130 : decode cX12_write 130 = .ok (.istore_n 1, 1) := by decide +kernel
theorem dX12_write_131 : decode cX12_write 131 = .ok (.aload_n 0, 1) := by decide +kernel
theorem dX12_write_132 : decode cX12_write 132 = .ok (.aload_n 0, 1) := by decide +kernel
theorem dX12_write_133 : decode cX12_write 133 = .ok (.getfield 17, 3) := by decide +kernel
theorem dX12_write_136 : decode cX12_write 136 = .ok (.iconst 4, 1) := by decide +kernel
theorem dX12_write_137 : decode cX12_write 137 = .ok (.iaload, 1) := by decide +kernel
theorem dX12_write_138 : decode cX12_write 138 = .ok (.invokevirtual 246, 3) := by decide +kernel
theorem dX12_write_141 : decode cX12_write 141 = .ok (.aload_n 0, 1) := by decide +kernel
theorem dX12_write_142 : decode cX12_write 142 = .ok (.aload_n 0, 1) := by decide +kernel
theorem dX12_write_143 : decode cX12_write 143 = .ok (.getfield 17, 3) := by decide +kernel
theorem dX12_write_146 : decode cX12_write 146 = .ok (.iconst 3, 1) := by decide +kernel
theorem dX12_write_147 : decode cX12_write 147 = .ok (.iaload, 1) := by decide +kernel
theorem dX12_write_148 : decode cX12_write 148 = .ok (.invokevirtual 246, 3) := by decide +kernel
theorem dX12_write_151 : decode cX12_write 151 = .ok (.aload_n 0, 1) := by decide +kernel
theorem dX12_write_152 : decode cX12_write 152 = .ok (.iload_n 1, 1) := by decide +kernel
theorem dX12_write_153 : decode cX12_write 153 = .ok (.invokevirtual 253, 3) := by decide +kernel
theorem dX12_write_156 : decode cX12_write 156 = .ok (.iconst 0, 1) := by decide +kernel
theorem dX12_write_157 : decode cX12_write 157 = .ok (.istore_n 2, 1) := by decide +kernel
theorem dX12_write_158 : decode cX12_write 158 = .ok (.aload_n 0, 1) := by decide +kernel
theorem dX12_write_159 : decode cX12_write 159 = .ok (.getfield 17, 3) := by decide +kernel
theorem dX12_write_162 : decode cX12_write 162 = .ok (.iconst 5, 1) := by decide +kernel
theorem dX12_write_163 : decode cX12_write 163 = .ok (.iaload, 1) := by decide +kernel
theorem dX12_write_164 : decode cX12_write 164 = .ok (.iconst 1, 1) := by decide +kernel
theorem dX12_write_165 : decode cX12_write 165 = .ok (.if_icmp .ne 12, 3) := by decide +kernel
theorem dX12_write_168 : decode cX12_write 168 = .ok (.aload_n 0, 1) := by decide +kernel
theorem dX12_write_169 : decode cX12_write 169 = .ok (.iconst 0, 1) := by decide +kernel
theorem dX12_write_170 : decode cX12_write 170 = .ok (.iload_n 2, 1) := by decide +kernel
theorem dX12_write_171 : decode cX12_write 171 = .ok (.invokevirtual 256, 3) := by decide +kernel
theorem dX12_write_174 : decode cX12_write 174 = .ok (.iinc 2 1, 3) := by decide +kernel
theorem dX12_write_177 : decode cX12_write 177 = .ok (.aload_n 0, 1) := by decide +kernel
theorem dX12_write_178 : decode cX12_write 178 = .ok (.bipush 73, 2) := by decide +kernel
theorem dX12_write_180 : decode cX12_write 180 = .ok (.bipush 68, 2) := by decide +kernel
theorem dX12_write_182 : decode cX12_write 182 = .ok (.bipush 65, 2) := by decide +kernel
theorem dX12_write_184 : decode cX12_write 184 = .ok (.bipush 84, 2) := by decide +kernel
theorem dX12_write_186 : decode cX12_write 186 = .ok (.invokevirtual 249, 3) := by decide +kernel
theorem dX12_write_189 : decode cX12_write 189 = .ok (.istore_n 1, 1) := by decide +kernel
theorem dX12_write_190 : decode cX12_write 190 = .ok (.aload_n 0, 1) := by decide +kernel
theorem dX12_write_191 : decode cX12_write 191 = .ok (.aload_n 0, 1) := by decide +kernel
theorem dX12_write_192 : decode cX12_write 192 = .ok (.getfield 17, 3) := by decide +kernel
theorem dX12_write_195 : decode cX12_write 195 = .ok (.iconst 5, 1) := by decide +kernel
theorem dX12_write_196 : decode cX12_write 196 = .ok (.iaload, 1) := by decide +kernel
theorem dX12_write_197 : decode cX12_write 197 = .ok (.iconst 1, 1) := by decide +kernel
theorem dX12_write_198 : decode cX12_write 198 = .ok (.if_icmp .ne 7, 3) := by decide +kernel
theorem dX12_write_201 : decode cX12_write 201 = .ok (.iconst 0, 1) := by decide +kernel
theorem dX12_write_202 : decode cX12_write 202 = .ok (.goto 5, 3) := by decide +kernel
theorem dX12_write_205 : decode cX12_write 205 = .ok (.bipush 8, 2) := by decide +kernel
theorem dX12_write_207 : decode cX12_write 207 = .ok (.aload_n 0, 1) := by decide +kernel
theorem dX12_write_208 : decode cX12_write 208 = .ok (.getfield 17, 3) := by decide +kernel
theorem dX12_write_211 : decode cX12_write 211 = .ok (.iconst 1, 1) := by decide +kernel
theorem dX12_write_212 : decode cX12_write 212 = .ok (.iaload, 1) := by decide +kernel
theorem dX12_write_213 : decode cX12_write 213 = .ok (.aload_n 0, 1) := by decide +kernel
theorem dX12_write_214 : decode cX12_write 214 = .ok (.getfield 17, 3) := by decide +kernel
theorem dX12_write_217 : decode cX12_write 217 = .ok (.iconst 2, 1) := by decide +kernel
theorem dX12_write_218 : decode cX12_write 218 = .ok (.iaload, 1) := by decide +kernel
theorem dX12_write_219 : decode cX12_write 219 = .ok (.invokevirtual 259, 3) := by decide +kernel
theorem dX12_write_222 : decode cX12_write 222 = .ok (.aload_n 0, 1) := by decide +kernel
theorem dX12_write_223 : decode cX12_write 223 = .ok (.iload_n 1, 1) := by decide +kernel
theorem dX12_write_224 : decode cX12_write 224 = .ok (.invokevirtual 253, 3) := by decide +kernel
theorem dX12_write_227 : decode cX12_write 227 = .ok (.aload_n 0, 1) := by decide +kernel
theorem dX12_write_228 : decode cX12_write 228 = .ok (.getfield 17, 3) := by decide +kernel
theorem dX12_write_231 : decode cX12_write 231 = .ok (.iconst 5, 1) := by decide +kernel
theorem dX12_write_232 : decode cX12_write 232 = .ok (.iaload, 1) := by decide +kernel
theorem dX12_write_233 : decode cX12_write 233 = .ok (.istore_n 3, 1) := by decide +kernel
theorem dX12_write_234 : decode cX12_write 234 = .ok (.iload_n 3, 1) := by decide +kernel
theorem dX12_write_235 : decode cX12_write 235 = .ok (.aload_n 0, 1) := by decide +kernel
theorem dX12_write_236 : decode cX12_write 236 = .ok (.getfield 17, 3) := by decide +kernel
theorem dX12_write_239 : decode cX12_write 239 = .ok (.iconst 4, 1) := by decide +kernel
theorem dX12_write_240 : decode cX12_write 240 = .ok (.iaload, 1) := by decide +kernel
theorem dX12_write_241 : decode cX12_write 241 = .ok (.if_icmp .ge 63, 3) := by decide +kernel
theorem dX12_write_244 : decode cX12_write 244 = .ok (.aload_n 0, 1) := by decide +kernel
theorem dX12_write_245 : decode cX12_write 245 = .ok (.iload_n 3, 1) := by decide +kernel
theorem dX12_write_246 : decode cX12_write 246 = .ok (.iload_n 2, 1) := by decide +kernel
theorem dX12_write_247 : decode cX12_write 247 = .ok (.invokevirtual 256, 3) := by decide +kernel
theorem dX12_write_250 : decode cX12_write 250 = .ok (.aload_n 0, 1) := by decide +kernel
theorem dX12_write_251 : decode cX12_write 251 = .ok (.bipush 102, 2) := by decide +kernel
theorem dX12_write_253 : decode cX12_write 253 = .ok (.bipush 100, 2) := by decide +kernel
theorem dX12_write_255 : decode cX12_write 255 = .ok (.bipush 65, 2) := by decide +kernel
theorem dX12_write_257 : decode cX12_write 257 = .ok (.bipush 84, 2) := by decide +kernel
theorem dX12_write_259 : decode cX12_write 259 = .ok (.invokevirtual 249, 3) := by decide +kernel
theorem dX12_write_262 : decode cX12_write 262 = .ok (.istore_n 1, 1) := by decide +kernel
theorem dX12_write_263 : decode cX12_write 263 = .ok (.aload_n 0, 1) := by decide +kernel
theorem dX12_write_264 : decode cX12_write 264 = .ok (.iload_n 2, 1) := by decide +kernel
theorem dX12_write_265 : decode cX12_write 265 = .ok (.iconst 1, 1) := by decide +kernel
theorem dX12_write_266 : decode cX12_write 266 = .ok (.iadd, 1) := by decide +kernel
theorem dX12_write_267 : decode cX12_write 267 = .ok (.invokevirtual 246, 3) := by decide +kernel
theorem dX12_write_270 : decode cX12_write 270 = .ok (.iload_n 2, 1) := by decide +kernel
theorem dX12_write_271 : decode cX12_write 271 = .ok (.iconst 2, 1) := by decide +kernel
theorem dX12_write_272 : decode cX12_write 272 = .ok (.iadd, 1) := by decide +kernel
theorem dX12_write_273 : decode cX12_write 273 = .ok (.istore_n 2, 1) := by decide +kernel
theorem dX12_write_274 : decode cX12_write 274 = .ok (.aload_n 0, 1) := by decide +kernel
theorem dX12_write_275 : decode cX12_write 275 = .ok (.iload_n 3, 1) := by decide +kernel
theorem dX12_write_276 : decode cX12_write 276 = .ok (.aload_n 0, 1) := by decide +kernel
theorem dX12_write_277 : decode cX12_write 277 = .ok (.iconst 0, 1) := by decide +kernel
theorem dX12_write_278 : decode cX12_write 278 = .ok (.iload_n 3, 1) := by decide +kernel
theorem dX12_write_279 : decode cX12_write 279 = .ok (.iconst 0, 1) := by decide +kernel
theorem dX12_write_280 : decode cX12_write 280 = .ok (.invokevirtual 173, 3) := by decide +kernel
theorem dX12_write_283 : decode cX12_write 283 = .ok (.aload_n 0, 1) := by decide +kernel
theorem dX12_write_284 : decode cX12_write 284 = .ok (.iconst 0, 1) := by decide +kernel
theorem dX12_write_285 : decode cX12_write 285 = .ok (.iload_n 3, 1) := by decide +kernel
theorem dX12_write_286 : decode cX12_write 286 = .ok (.iconst 1, 1) := by decide +kernel
theorem dX12_write_287 : decode cX12_write 287 = .ok (.invokevirtual 173, 3) := by decide +kernel
theorem dX12_write_290 : decode cX12_write 290 = .ok (.invokevirtual 259, 3) := by decide +kernel
theorem dX12_write_293 : decode cX12_write 293 = .ok (.aload_n 0, 1) := by decide +kernel
theorem dX12_write_294 : decode cX12_write 294 = .ok (.iload_n 1, 1) := by decide +kernel
theorem dX12_write_295 : decode cX12_write 295 = .ok (.invokevirtual 253, 3) := by decide +kernel
theorem dX12_write_298 : decode cX12_write 298 = .ok (.iinc 3 1, 3) := by decide +kernel
theorem dX12_write_301 : decode cX12_write 301 = .ok (.goto (-67), 3) := by decide +kernel
theorem dX12_write_304 : decode cX12_write 304 = .ok (.aload_n 0, 1) := by decide +kernel
theorem dX12_write_305 : decode cX12_write 305 = .ok (.aload_n 0, 1) := by decide +kernel
theorem dX12_write_306 : decode cX12_write 306 = .ok (.bipush 73, 2) := by decide +kernel
theorem dX12_write_308 : decode cX12_write 308 = .ok (.bipush 69, 2) := by decide +kernel
theorem dX12_write_310 : decode cX12_write 310 = .ok (.bipush 78, 2) := by decide +kernel
theorem dX12_write_312 : decode cX12_write 312 = .ok (.bipush 68, 2) := by decide +kernel
theorem dX12_write_314 : decode cX12_write 314 = .ok (.invokevirtual 249, 3) := by decide +kernel
theorem dX12_write_317 : decode cX12_write 317 = .ok (.invokevirtual 253, 3) := by decide +kernel
theorem dX12_write_320 : decode cX12_write 320 = .ok (.aload_n 0, 1) := by decide +kernel
theorem dX12_write_321 : decode cX12_write 321 = .ok (.getfield 240, 3) := by decide +kernel
theorem dX12_write_324 : decode cX12_write 324 = .ok (.ireturn, 1) := by decide +kernel
theorem dX12_out_0 : decode cX12_out 0 = .ok (.aload_n 0, 1) := by decide +kernel
theorem dX12_out_1 : decode cX12_out 1 = .ok (.iconst 0, 1) := by decide +kernel
theorem dX12_out_2 : decode cX12_out 2 = .ok (.putfield 51, 3) := by decide +kernel
theorem dX12_out_5 : decode cX12_out 5 = .ok (.iload_n 1, 1) := by decide +kernel
theorem dX12_out_6 : decode cX12_out 6 = .ok (.ifCond .lt 11, 3) := by decide +kernel
theorem dX12_out_9 : decode cX12_out 9 = .ok (.iload_n 1, 1) := by decide +kernel
theorem dX12_out_10 : decode cX12_out 10 = .ok (.aload_n 0, 1) := by decide +kernel
theorem dX12_out_11 : decode cX12_out 11 = .ok (.getfield 240, 3) := by decide +kernel
theorem dX12_out_14 : decode cX12_out 14 = .ok (.if_icmp .lt 7, 3) := by decide +kernel
theorem dX12_out_17 : decode cX12_out 17 = .ok (.iconst (-1), 1) := by decide +kernel
theorem dX12_out_18 : decode cX12_out 18 = .ok (.goto 13, 3) := by decide +kernel
theorem dX12_out_21 : decode cX12_out 21 = .ok (.aload_n 0, 1) := by decide +kernel
theorem dX12_out_22 : decode cX12_out 22 = .ok (.getfield 33, 3) := by decide +kernel
theorem dX12_out_25 : decode cX12_out 25 = .ok (.iload_n 1, 1) := by decide +kernel
theorem dX12_out_26 : decode cX12_out 26 = .ok (.baload, 1) := by decide +kernel
theorem dX12_out_27 : decode cX12_out 27 = .ok (.sipush 255, 3) := by decide +kernel
theorem dX12_out_30 : decode cX12_out 30 = .ok (.iand, 1) := by decide +kernel
theorem dX12_out_31 : decode cX12_out 31 = .ok (.ireturn, 1) := by decide +kernel
theorem dJ9_abs_0f7a4_0 : decode cJ9_abs_0f7a4 0 = .ok (.iload_n 0, 1) := by decide +kernel
theorem dJ9_abs_0f7a4_1 : decode cJ9_abs_0f7a4 1 = .ok (.ifCond .ge 8, 3) := by decide +kernel
theorem dJ9_abs_0f7a4_4 : decode cJ9_abs_0f7a4 4 = .ok (.iload_n 0, 1) := by decide +kernel
theorem dJ9_abs_0f7a4_5 : decode cJ9_abs_0f7a4 5 = .ok (.ineg, 1) := by decide +kernel
theorem dJ9_abs_0f7a4_6 : decode cJ9_abs_0f7a4 6 = .ok (.goto 4, 3) := by decide +kernel
theorem dJ9_abs_0f7a4_9 : decode cJ9_abs_0f7a4 9 = .ok (.iload_n 0, 1) := by decide +kernel
theorem dJ9_abs_0f7a4_10 : decode cJ9_abs_0f7a4 10 = .ok (.ireturn, 1) := by decide +kernel
theorem dJ7_fill_53178_0 : decode cJ7_fill_53178 0 = .ok (.iconst 0, 1) := by decide +kernel
theorem dJ7_fill_53178_1 : decode cJ7_fill_53178 1 = .ok (.istore_n 2, 1) := by decide +kernel
theorem dJ7_fill_53178_2 : decode cJ7_fill_53178 2 = .ok (.aload_n 0, 1) := by decide +kernel
theorem dJ7_fill_53178_3 : decode cJ7_fill_53178 3 = .ok (.arraylength, 1) := by decide +kernel
theorem dJ7_fill_53178_4 : decode cJ7_fill_53178 4 = .ok (.istore_n 3, 1) := by decide +kernel
theorem dJ7_fill_53178_5 : decode cJ7_fill_53178 5 = .ok (.iload_n 2, 1) := by decide +kernel
theorem dJ7_fill_53178_6 : decode cJ7_fill_53178 6 = .ok (.iload_n 3, 1) := by decide +kernel
theorem dJ7_fill_53178_7 : decode cJ7_fill_53178 7 = .ok (.if_icmp .ge 13, 3) := by decide +kernel
theorem dJ7_fill_53178_10 : decode cJ7_fill_53178 10 = .ok (.aload_n 0, 1) := by decide +kernel
theorem dJ7_fill_53178_11 : decode cJ7_fill_53178 11 = .ok (.iload_n 2, 1) := by decide +kernel
theorem dJ7_fill_53178_12 : decode cJ7_fill_53178 12 = .ok (.iload_n 1, 1) := by decide +kernel
theorem dJ7_fill_53178_13 : decode cJ7_fill_53178 13 = .ok (.iastore, 1) := by decide +kernel
theorem dJ7_fill_53178_14 : decode cJ7_fill_53178 14 = .ok (.iinc 2 1, 3) := by decide +kernel
theorem dJ7_fill_53178_17 : decode cJ7_fill_53178 17 = .ok (.goto (-12), 3) := by decide +kernel
theorem dJ7_fill_53178_20 : decode cJ7_fill_53178 20 = .ok (.return_, 1) := by decide +kernel
theorem dL_pixel_0 : decode cL_pixel 0 = .ok (.aload_n 3, 1) := by decide +kernel
theorem dL_pixel_1 : decode cL_pixel 1 = .ok (.iconst 0, 1) := by decide +kernel
theorem dL_pixel_2 : decode cL_pixel 2 = .ok (.aload_n 0, 1) := by decide +kernel
theorem dL_pixel_3 : decode cL_pixel 3 = .ok (.iload_n 1, 1) := by decide +kernel
theorem dL_pixel_4 : decode cL_pixel 4 = .ok (.iload_n 2, 1) := by decide +kernel
theorem dL_pixel_5 : decode cL_pixel 5 = .ok (.invokevirtual 7, 3) := by decide +kernel
theorem dL_pixel_8 : decode cL_pixel 8 = .ok (.i2l, 1) := by decide +kernel
theorem dL_pixel_9 : decode cL_pixel 9 = .ok (.lastore, 1) := by decide +kernel
theorem dL_pixel_10 : decode cL_pixel 10 = .ok (.goto 7, 3) := by decide +kernel
theorem dL_pixel_13 : decode cL_pixel 13 = .ok (.astore 4, 2) := by decide +kernel
theorem dL_pixel_15 : decode cL_pixel 15 = .ok (.iconst 1, 1) := by decide +kernel
theorem dL_pixel_16 : decode cL_pixel 16 = .ok (.ireturn, 1) := by decide +kernel
theorem dL_pixel_17 : decode cL_pixel 17 = .ok (.iconst 0, 1) := by decide +kernel
theorem dL_pixel_18 : decode cL_pixel 18 = .ok (.ireturn, 1) := by decide +kernel
theorem dL_law_0 : decode cL_law 0 = .ok (.new 8, 3) := by decide +kernel
theorem dL_law_3 : decode cL_law 3 = .ok (.dup, 1) := by decide +kernel
theorem dL_law_4 : decode cL_law 4 = .ok (.invokespecial 15, 3) := by decide +kernel
theorem dL_law_7 : decode cL_law 7 = .ok (.astore_n 1, 1) := by decide +kernel
theorem dL_law_8 : decode cL_law 8 = .ok (.new 16, 3) := by decide +kernel
theorem dL_law_11 : decode cL_law 11 = .ok (.dup, 1) := by decide +kernel
theorem dL_law_12 : decode cL_law 12 = .ok (.invokespecial 18, 3) := by decide +kernel
theorem dL_law_15 : decode cL_law 15 = .ok (.astore_n 2, 1) := by decide +kernel
theorem dL_law_16 : decode cL_law 16 = .ok (.iconst 1, 1) := by decide +kernel
theorem dL_law_17 : decode cL_law 17 = .ok (.newarray .long, 2) := by decide +kernel
theorem dL_law_19 : decode cL_law 19 = .ok (.astore_n 3, 1) := by decide +kernel
theorem dL_law_20 : decode cL_law 20 = .ok (.iconst 0, 1) := by decide +kernel
theorem dL_law_21 : decode cL_law 21 = .ok (.istore 4, 2) := by decide +kernel
theorem dL_law_23 : decode cL_law 23 = .ok (.iload 4, 2) := by decide +kernel
theorem dL_law_25 : decode cL_law 25 = .ok (.aload_n 0, 1) := by decide +kernel
theorem dL_law_26 : decode cL_law 26 = .ok (.arraylength, 1) := by decide +kernel
theorem dL_law_27 : decode cL_law 27 = .ok (.bipush 7, 2) := by decide +kernel
theorem dL_law_29 : decode cL_law 29 = .ok (.isub, 1) := by decide +kernel
theorem dL_law_30 : decode cL_law 30 = .ok (.if_icmp .gt 614, 3) := by decide +kernel
theorem dL_law_33 : decode cL_law 33 = .ok (.aload_n 0, 1) := by decide +kernel
theorem dL_law_34 : decode cL_law 34 = .ok (.iload 4, 2) := by decide +kernel
theorem dL_law_36 : decode cL_law 36 = .ok (.iaload, 1) := by decide +kernel
theorem dL_law_37 : decode cL_law 37 = .ok (.bipush 15, 2) := by decide +kernel
theorem dL_law_39 : decode cL_law 39 = .ok (.iand, 1) := by decide +kernel
theorem dL_law_40 : decode cL_law 40 = .ok (.tableswitch 598 0 12 #[68, 105, 166, 179, 192, 241, 328, 389, 430, 467, 492, 560, 573], 68) := by decide +kernel
theorem dL_law_108 : decode cL_law 108 = .ok (.aload_n 1, 1) := by decide +kernel
theorem dL_law_109 : decode cL_law 109 = .ok (.aload_n 0, 1) := by decide +kernel
theorem dL_law_110 : decode cL_law 110 = .ok (.iload 4, 2) := by decide +kernel
theorem dL_law_112 : decode cL_law 112 = .ok (.iconst 1, 1) := by decide +kernel
theorem dL_law_113 : decode cL_law 113 = .ok (.iadd, 1) := by decide +kernel
theorem dL_law_114 : decode cL_law 114 = .ok (.iaload, 1) := by decide +kernel
theorem dL_law_115 : decode cL_law 115 = .ok (.aload_n 0, 1) := by decide +kernel
theorem dL_law_116 : decode cL_law 116 = .ok (.iload 4, 2) := by decide +kernel
theorem dL_law_118 : decode cL_law 118 = .ok (.iconst 2, 1) := by decide +kernel
theorem dL_law_119 : decode cL_law 119 = .ok (.iadd, 1) := by decide +kernel
theorem dL_law_120 : decode cL_law 120 = .ok (.iaload, 1) := by decide +kernel
theorem dL_law_121 : decode cL_law 121 = .ok (.invokevirtual 19, 3) := by decide +kernel
theorem dL_law_124 : decode cL_law 124 = .ok (.aload_n 2, 1) := by decide +kernel
theorem dL_law_125 : decode cL_law 125 = .ok (.aload_n 0, 1) := by decide +kernel
theorem dL_law_126 : decode cL_law 126 = .ok (.iload 4, 2) := by decide +kernel
theorem dL_law_128 : decode cL_law 128 = .ok (.iconst 1, 1) := by decide +kernel
theorem dL_law_129 : decode cL_law 129 = .ok (.iadd, 1) := by decide +kernel
theorem dL_law_130 : decode cL_law 130 = .ok (.iaload, 1) := by decide +kernel
theorem dL_law_131 : decode cL_law 131 = .ok (.aload_n 0, 1) := by decide +kernel
theorem dL_law_132 : decode cL_law 132 = .ok (.iload 4, 2) := by decide +kernel
theorem dL_law_134 : decode cL_law 134 = .ok (.iconst 2, 1) := by decide +kernel
theorem dL_law_135 : decode cL_law 135 = .ok (.iadd, 1) := by decide +kernel
theorem dL_law_136 : decode cL_law 136 = .ok (.iaload, 1) := by decide +kernel
theorem dL_law_137 : decode cL_law 137 = .ok (.invokevirtual 22, 3) := by decide +kernel
theorem dL_law_140 : decode cL_law 140 = .ok (.if_icmp .eq 498, 3) := by decide +kernel
theorem dL_law_143 : decode cL_law 143 = .ok (.iconst 0, 1) := by decide +kernel
theorem dL_law_144 : decode cL_law 144 = .ok (.ireturn, 1) := by decide +kernel
theorem dL_law_145 : decode cL_law 145 = .ok (.aload_n 1, 1) := by decide +kernel
theorem dL_law_146 : decode cL_law 146 = .ok (.aload_n 0, 1) := by decide +kernel
theorem dL_law_147 : decode cL_law 147 = .ok (.iload 4, 2) := by decide +kernel
theorem dL_law_149 : decode cL_law 149 = .ok (.iconst 1, 1) := by decide +kernel
theorem dL_law_150 : decode cL_law 150 = .ok (.iadd, 1) := by decide +kernel
theorem dL_law_151 : decode cL_law 151 = .ok (.iaload, 1) := by decide +kernel
theorem dL_law_152 : decode cL_law 152 = .ok (.aload_n 0, 1) := by decide +kernel
theorem dL_law_153 : decode cL_law 153 = .ok (.iload 4, 2) := by decide +kernel
theorem dL_law_155 : decode cL_law 155 = .ok (.iconst 2, 1) := by decide +kernel
theorem dL_law_156 : decode cL_law 156 = .ok (.iadd, 1) := by decide +kernel
theorem dL_law_157 : decode cL_law 157 = .ok (.iaload, 1) := by decide +kernel
theorem dL_law_158 : decode cL_law 158 = .ok (.aload_n 0, 1) := by decide +kernel
theorem dL_law_159 : decode cL_law 159 = .ok (.iload 4, 2) := by decide +kernel
theorem dL_law_161 : decode cL_law 161 = .ok (.iconst 3, 1) := by decide +kernel
theorem dL_law_162 : decode cL_law 162 = .ok (.iadd, 1) := by decide +kernel
theorem dL_law_163 : decode cL_law 163 = .ok (.iaload, 1) := by decide +kernel
theorem dL_law_164 : decode cL_law 164 = .ok (.aload_n 0, 1) := by decide +kernel
theorem dL_law_165 : decode cL_law 165 = .ok (.iload 4, 2) := by decide +kernel
theorem dL_law_167 : decode cL_law 167 = .ok (.iconst 4, 1) := by decide +kernel
theorem dL_law_168 : decode cL_law 168 = .ok (.iadd, 1) := by decide +kernel
theorem dL_law_169 : decode cL_law 169 = .ok (.iaload, 1) := by decide +kernel
theorem dL_law_170 : decode cL_law 170 = .ok (.invokevirtual 23, 3) := by decide +kernel
theorem dL_law_173 : decode cL_law 173 = .ok (.aload_n 2, 1) := by decide +kernel
theorem dL_law_174 : decode cL_law 174 = .ok (.aload_n 0, 1) := by decide +kernel
theorem dL_law_175 : decode cL_law 175 = .ok (.iload 4, 2) := by decide +kernel
theorem dL_law_177 : decode cL_law 177 = .ok (.iconst 1, 1) := by decide +kernel
theorem dL_law_178 : decode cL_law 178 = .ok (.iadd, 1) := by decide +kernel
theorem dL_law_179 : decode cL_law 179 = .ok (.iaload, 1) := by decide +kernel
theorem dL_law_180 : decode cL_law 180 = .ok (.aload_n 0, 1) := by decide +kernel
theorem dL_law_181 : decode cL_law 181 = .ok (.iload 4, 2) := by decide +kernel
theorem dL_law_183 : decode cL_law 183 = .ok (.iconst 2, 1) := by decide +kernel
theorem dL_law_184 : decode cL_law 184 = .ok (.iadd, 1) := by decide +kernel
theorem dL_law_185 : decode cL_law 185 = .ok (.iaload, 1) := by decide +kernel
theorem dL_law_186 : decode cL_law 186 = .ok (.aload_n 0, 1) := by decide +kernel
theorem dL_law_187 : decode cL_law 187 = .ok (.iload 4, 2) := by decide +kernel
theorem dL_law_189 : decode cL_law 189 = .ok (.iconst 3, 1) := by decide +kernel
theorem dL_law_190 : decode cL_law 190 = .ok (.iadd, 1) := by decide +kernel
theorem dL_law_191 : decode cL_law 191 = .ok (.iaload, 1) := by decide +kernel
theorem dL_law_192 : decode cL_law 192 = .ok (.aload_n 0, 1) := by decide +kernel
theorem dL_law_193 : decode cL_law 193 = .ok (.iload 4, 2) := by decide +kernel
theorem dL_law_195 : decode cL_law 195 = .ok (.iconst 4, 1) := by decide +kernel
theorem dL_law_196 : decode cL_law 196 = .ok (.iadd, 1) := by decide +kernel
theorem dL_law_197 : decode cL_law 197 = .ok (.iaload, 1) := by decide +kernel
theorem dL_law_198 : decode cL_law 198 = .ok (.invokevirtual 27, 3) := by decide +kernel
theorem dL_law_201 : decode cL_law 201 = .ok (.if_icmp .eq 437, 3) := by decide +kernel
theorem dL_law_204 : decode cL_law 204 = .ok (.iconst 0, 1) := by decide +kernel
theorem dL_law_205 : decode cL_law 205 = .ok (.ireturn, 1) := by decide +kernel
theorem dL_law_206 : decode cL_law 206 = .ok (.aload_n 1, 1) := by decide +kernel
theorem dL_law_207 : decode cL_law 207 = .ok (.invokevirtual 28, 3) := by decide +kernel
theorem dL_law_210 : decode cL_law 210 = .ok (.aload_n 2, 1) := by decide +kernel
theorem dL_law_211 : decode cL_law 211 = .ok (.invokevirtual 32, 3) := by decide +kernel
theorem dL_law_214 : decode cL_law 214 = .ok (.if_icmp .eq 424, 3) := by decide +kernel
