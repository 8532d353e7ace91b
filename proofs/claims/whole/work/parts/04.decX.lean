theorem dX_init_0 : decode cX_init 0 = .ok (.aload_n 0, 1) := by decide +kernel
theorem dX_init_1 : decode cX_init 1 = .ok (.invokespecial 1, 3) := by decide +kernel
theorem dX_init_4 : decode cX_init 4 = .ok (.aload_n 0, 1) := by decide +kernel
theorem dX_init_5 : decode cX_init 5 = .ok (.bipush 40, 2) := by decide +kernel
theorem dX_init_7 : decode cX_init 7 = .ok (.newarray .int, 2) := by decide +kernel
theorem dX_init_9 : decode cX_init 9 = .ok (.putfield 9, 3) := by decide +kernel
theorem dX_init_12 : decode cX_init 12 = .ok (.aload_n 0, 1) := by decide +kernel
theorem dX_init_13 : decode cX_init 13 = .ok (.bipush 40, 2) := by decide +kernel
theorem dX_init_15 : decode cX_init 15 = .ok (.newarray .int, 2) := by decide +kernel
theorem dX_init_17 : decode cX_init 17 = .ok (.putfield 13, 3) := by decide +kernel
theorem dX_init_20 : decode cX_init 20 = .ok (.aload_n 0, 1) := by decide +kernel
theorem dX_init_21 : decode cX_init 21 = .ok (.bipush 40, 2) := by decide +kernel
theorem dX_init_23 : decode cX_init 23 = .ok (.newarray .int, 2) := by decide +kernel
theorem dX_init_25 : decode cX_init 25 = .ok (.putfield 16, 3) := by decide +kernel
theorem dX_init_28 : decode cX_init 28 = .ok (.aload_n 0, 1) := by decide +kernel
theorem dX_init_29 : decode cX_init 29 = .ok (.bipush 40, 2) := by decide +kernel
theorem dX_init_31 : decode cX_init 31 = .ok (.newarray .int, 2) := by decide +kernel
theorem dX_init_33 : decode cX_init 33 = .ok (.putfield 19, 3) := by decide +kernel
theorem dX_init_36 : decode cX_init 36 = .ok (.aload_n 0, 1) := by decide +kernel
theorem dX_init_37 : decode cX_init 37 = .ok (.bipush 40, 2) := by decide +kernel
theorem dX_init_39 : decode cX_init 39 = .ok (.newarray .int, 2) := by decide +kernel
theorem dX_init_41 : decode cX_init 41 = .ok (.putfield 22, 3) := by decide +kernel
theorem dX_init_44 : decode cX_init 44 = .ok (.aload_n 0, 1) := by decide +kernel
theorem dX_init_45 : decode cX_init 45 = .ok (.bipush 40, 2) := by decide +kernel
theorem dX_init_47 : decode cX_init 47 = .ok (.newarray .int, 2) := by decide +kernel
theorem dX_init_49 : decode cX_init 49 = .ok (.putfield 25, 3) := by decide +kernel
theorem dX_init_52 : decode cX_init 52 = .ok (.aload_n 0, 1) := by decide +kernel
theorem dX_init_53 : decode cX_init 53 = .ok (.bipush 40, 2) := by decide +kernel
theorem dX_init_55 : decode cX_init 55 = .ok (.newarray .int, 2) := by decide +kernel
theorem dX_init_57 : decode cX_init 57 = .ok (.putfield 28, 3) := by decide +kernel
theorem dX_init_60 : decode cX_init 60 = .ok (.aload_n 0, 1) := by decide +kernel
theorem dX_init_61 : decode cX_init 61 = .ok (.bipush 40, 2) := by decide +kernel
theorem dX_init_63 : decode cX_init 63 = .ok (.newarray .int, 2) := by decide +kernel
theorem dX_init_65 : decode cX_init 65 = .ok (.putfield 31, 3) := by decide +kernel
theorem dX_init_68 : decode cX_init 68 = .ok (.aload_n 0, 1) := by decide +kernel
theorem dX_init_69 : decode cX_init 69 = .ok (.bipush 40, 2) := by decide +kernel
theorem dX_init_71 : decode cX_init 71 = .ok (.newarray .int, 2) := by decide +kernel
theorem dX_init_73 : decode cX_init 73 = .ok (.putfield 34, 3) := by decide +kernel
theorem dX_init_76 : decode cX_init 76 = .ok (.aload_n 0, 1) := by decide +kernel
theorem dX_init_77 : decode cX_init 77 = .ok (.bipush 40, 2) := by decide +kernel
theorem dX_init_79 : decode cX_init 79 = .ok (.newarray .int, 2) := by decide +kernel
theorem dX_init_81 : decode cX_init 81 = .ok (.putfield 37, 3) := by decide +kernel
theorem dX_init_84 : decode cX_init 84 = .ok (.aload_n 0, 1) := by decide +kernel
theorem dX_init_85 : decode cX_init 85 = .ok (.bipush 10, 2) := by decide +kernel
theorem dX_init_87 : decode cX_init 87 = .ok (.newarray .int, 2) := by decide +kernel
theorem dX_init_89 : decode cX_init 89 = .ok (.putfield 40, 3) := by decide +kernel
theorem dX_init_92 : decode cX_init 92 = .ok (.aload_n 0, 1) := by decide +kernel
theorem dX_init_93 : decode cX_init 93 = .ok (.bipush 10, 2) := by decide +kernel
theorem dX_init_95 : decode cX_init 95 = .ok (.newarray .long, 2) := by decide +kernel
theorem dX_init_97 : decode cX_init 97 = .ok (.putfield 43, 3) := by decide +kernel
theorem dX_init_100 : decode cX_init 100 = .ok (.aload_n 0, 1) := by decide +kernel
theorem dX_init_101 : decode cX_init 101 = .ok (.bipush 10, 2) := by decide +kernel
theorem dX_init_103 : decode cX_init 103 = .ok (.newarray .long, 2) := by decide +kernel
theorem dX_init_105 : decode cX_init 105 = .ok (.putfield 47, 3) := by decide +kernel
theorem dX_init_108 : decode cX_init 108 = .ok (.aload_n 0, 1) := by decide +kernel
theorem dX_init_109 : decode cX_init 109 = .ok (.new 50, 3) := by decide +kernel
theorem dX_init_112 : decode cX_init 112 = .ok (.dup, 1) := by decide +kernel
theorem dX_init_113 : decode cX_init 113 = .ok (.invokespecial 52, 3) := by decide +kernel
theorem dX_init_116 : decode cX_init 116 = .ok (.putfield 53, 3) := by decide +kernel
theorem dX_init_119 : decode cX_init 119 = .ok (.aload_n 0, 1) := by decide +kernel
theorem dX_init_120 : decode cX_init 120 = .ok (.bipush 40, 2) := by decide +kernel
theorem dX_init_122 : decode cX_init 122 = .ok (.newarray .long, 2) := by decide +kernel
theorem dX_init_124 : decode cX_init 124 = .ok (.putfield 57, 3) := by decide +kernel
theorem dX_init_127 : decode cX_init 127 = .ok (.aload_n 0, 1) := by decide +kernel
theorem dX_init_128 : decode cX_init 128 = .ok (.bipush 40, 2) := by decide +kernel
theorem dX_init_130 : decode cX_init 130 = .ok (.newarray .long, 2) := by decide +kernel
theorem dX_init_132 : decode cX_init 132 = .ok (.putfield 60, 3) := by decide +kernel
theorem dX_init_135 : decode cX_init 135 = .ok (.return_, 1) := by decide +kernel
theorem dX_melt_0 : decode cX_melt 0 = .ok (.iload_n 1, 1) := by decide +kernel
theorem dX_melt_1 : decode cX_melt 1 = .ok (.iconst 1, 1) := by decide +kernel
theorem dX_melt_2 : decode cX_melt 2 = .ok (.ldc 63, 2) := by decide +kernel
theorem dX_melt_4 : decode cX_melt 4 = .ok (.invokestatic 64, 3) := by decide +kernel
theorem dX_melt_7 : decode cX_melt 7 = .ok (.iload_n 2, 1) := by decide +kernel
theorem dX_melt_8 : decode cX_melt 8 = .ok (.iconst 1, 1) := by decide +kernel
theorem dX_melt_9 : decode cX_melt 9 = .ok (.ldc 63, 2) := by decide +kernel
theorem dX_melt_11 : decode cX_melt 11 = .ok (.invokestatic 64, 3) := by decide +kernel
theorem dX_melt_14 : decode cX_melt 14 = .ok (.aload_n 0, 1) := by decide +kernel
theorem dX_melt_15 : decode cX_melt 15 = .ok (.iconst 1, 1) := by decide +kernel
theorem dX_melt_16 : decode cX_melt 16 = .ok (.invokevirtual 68, 3) := by decide +kernel
theorem dX_melt_19 : decode cX_melt 19 = .ok (.aload_n 0, 1) := by decide +kernel
theorem dX_melt_20 : decode cX_melt 20 = .ok (.dup, 1) := by decide +kernel
theorem dX_melt_21 : decode cX_melt 21 = .ok (.getfield 72, 3) := by decide +kernel
theorem dX_melt_24 : decode cX_melt 24 = .ok (.iload_n 1, 1) := by decide +kernel
theorem dX_melt_25 : decode cX_melt 25 = .ok (.i2l, 1) := by decide +kernel
theorem dX_melt_26 : decode cX_melt 26 = .ok (.ladd, 1) := by decide +kernel
theorem dX_melt_27 : decode cX_melt 27 = .ok (.putfield 72, 3) := by decide +kernel
theorem dX_melt_30 : decode cX_melt 30 = .ok (.aload_n 0, 1) := by decide +kernel
theorem dX_melt_31 : decode cX_melt 31 = .ok (.iconst 0, 1) := by decide +kernel
theorem dX_melt_32 : decode cX_melt 32 = .ok (.iconst (-1), 1) := by decide +kernel
theorem dX_melt_33 : decode cX_melt 33 = .ok (.iload_n 1, 1) := by decide +kernel
theorem dX_melt_34 : decode cX_melt 34 = .ok (.iload_n 2, 1) := by decide +kernel
theorem dX_melt_35 : decode cX_melt 35 = .ok (.invokevirtual 76, 3) := by decide +kernel
theorem dX_melt_38 : decode cX_melt 38 = .ok (.ireturn, 1) := by decide +kernel
theorem dX_cut_0 : decode cX_cut 0 = .ok (.aload_n 0, 1) := by decide +kernel
theorem dX_cut_1 : decode cX_cut 1 = .ok (.iload_n 1, 1) := by decide +kernel
theorem dX_cut_2 : decode cX_cut 2 = .ok (.invokevirtual 80, 3) := by decide +kernel
theorem dX_cut_5 : decode cX_cut 5 = .ok (.aload_n 0, 1) := by decide +kernel
theorem dX_cut_6 : decode cX_cut 6 = .ok (.iload_n 1, 1) := by decide +kernel
theorem dX_cut_7 : decode cX_cut 7 = .ok (.invokevirtual 83, 3) := by decide +kernel
theorem dX_cut_10 : decode cX_cut 10 = .ok (.aload_n 0, 1) := by decide +kernel
theorem dX_cut_11 : decode cX_cut 11 = .ok (.getfield 16, 3) := by decide +kernel
theorem dX_cut_14 : decode cX_cut 14 = .ok (.iload_n 1, 1) := by decide +kernel
theorem dX_cut_15 : decode cX_cut 15 = .ok (.iaload, 1) := by decide +kernel
theorem dX_cut_16 : decode cX_cut 16 = .ok (.istore_n 3, 1) := by decide +kernel
theorem dX_cut_17 : decode cX_cut 17 = .ok (.iload_n 2, 1) := by decide +kernel
theorem dX_cut_18 : decode cX_cut 18 = .ok (.iconst 1, 1) := by decide +kernel
theorem dX_cut_19 : decode cX_cut 19 = .ok (.iload_n 3, 1) := by decide +kernel
theorem dX_cut_20 : decode cX_cut 20 = .ok (.iconst 1, 1) := by decide +kernel
theorem dX_cut_21 : decode cX_cut 21 = .ok (.isub, 1) := by decide +kernel
theorem dX_cut_22 : decode cX_cut 22 = .ok (.invokestatic 64, 3) := by decide +kernel
theorem dX_cut_25 : decode cX_cut 25 = .ok (.aload_n 0, 1) := by decide +kernel
theorem dX_cut_26 : decode cX_cut 26 = .ok (.iconst 2, 1) := by decide +kernel
theorem dX_cut_27 : decode cX_cut 27 = .ok (.invokevirtual 68, 3) := by decide +kernel
theorem dX_cut_30 : decode cX_cut 30 = .ok (.aload_n 0, 1) := by decide +kernel
theorem dX_cut_31 : decode cX_cut 31 = .ok (.getfield 13, 3) := by decide +kernel
theorem dX_cut_34 : decode cX_cut 34 = .ok (.iload_n 1, 1) := by decide +kernel
theorem dX_cut_35 : decode cX_cut 35 = .ok (.iaload, 1) := by decide +kernel
theorem dX_cut_36 : decode cX_cut 36 = .ok (.istore 4, 2) := by decide +kernel
theorem dX_cut_38 : decode cX_cut 38 = .ok (.iload 4, 2) := by decide +kernel
theorem dX_cut_40 : decode cX_cut 40 = .ok (.i2l, 1) := by decide +kernel
theorem dX_cut_41 : decode cX_cut 41 = .ok (.iload_n 2, 1) := by decide +kernel
theorem dX_cut_42 : decode cX_cut 42 = .ok (.i2l, 1) := by decide +kernel
theorem dX_cut_43 : decode cX_cut 43 = .ok (.lmul, 1) := by decide +kernel
theorem dX_cut_44 : decode cX_cut 44 = .ok (.iload_n 3, 1) := by decide +kernel
theorem dX_cut_45 : decode cX_cut 45 = .ok (.i2l, 1) := by decide +kernel
theorem dX_cut_46 : decode cX_cut 46 = .ok (.ldiv, 1) := by decide +kernel
theorem dX_cut_47 : decode cX_cut 47 = .ok (.l2i, 1) := by decide +kernel
theorem dX_cut_48 : decode cX_cut 48 = .ok (.istore 5, 2) := by decide +kernel
theorem dX_cut_50 : decode cX_cut 50 = .ok (.aload_n 0, 1) := by decide +kernel
theorem dX_cut_51 : decode cX_cut 51 = .ok (.getfield 19, 3) := by decide +kernel
theorem dX_cut_54 : decode cX_cut 54 = .ok (.iload_n 1, 1) := by decide +kernel
theorem dX_cut_55 : decode cX_cut 55 = .ok (.iconst 1, 1) := by decide +kernel
theorem dX_cut_56 : decode cX_cut 56 = .ok (.iastore, 1) := by decide +kernel
theorem dX_cut_57 : decode cX_cut 57 = .ok (.aload_n 0, 1) := by decide +kernel
theorem dX_cut_58 : decode cX_cut 58 = .ok (.iconst 1, 1) := by decide +kernel
theorem dX_cut_59 : decode cX_cut 59 = .ok (.iload_n 1, 1) := by decide +kernel
theorem dX_cut_60 : decode cX_cut 60 = .ok (.iload 5, 2) := by decide +kernel
theorem dX_cut_62 : decode cX_cut 62 = .ok (.iload_n 2, 1) := by decide +kernel
theorem dX_cut_63 : decode cX_cut 63 = .ok (.invokevirtual 76, 3) := by decide +kernel
theorem dX_cut_66 : decode cX_cut 66 = .ok (.istore 6, 2) := by decide +kernel
theorem dX_cut_68 : decode cX_cut 68 = .ok (.aload_n 0, 1) := by decide +kernel
theorem dX_cut_69 : decode cX_cut 69 = .ok (.iconst 2, 1) := by decide +kernel
theorem dX_cut_70 : decode cX_cut 70 = .ok (.iload_n 1, 1) := by decide +kernel
theorem dX_cut_71 : decode cX_cut 71 = .ok (.iload 4, 2) := by decide +kernel
theorem dX_cut_73 : decode cX_cut 73 = .ok (.iload 5, 2) := by decide +kernel
theorem dX_cut_75 : decode cX_cut 75 = .ok (.isub, 1) := by decide +kernel
theorem dX_cut_76 : decode cX_cut 76 = .ok (.iload_n 3, 1) := by decide +kernel
theorem dX_cut_77 : decode cX_cut 77 = .ok (.iload_n 2, 1) := by decide +kernel
theorem dX_cut_78 : decode cX_cut 78 = .ok (.isub, 1) := by decide +kernel
theorem dX_cut_79 : decode cX_cut 79 = .ok (.invokevirtual 76, 3) := by decide +kernel
theorem dX_cut_82 : decode cX_cut 82 = .ok (.istore 7, 2) := by decide +kernel
theorem dX_cut_84 : decode cX_cut 84 = .ok (.aload_n 0, 1) := by decide +kernel
theorem dX_cut_85 : decode cX_cut 85 = .ok (.getfield 31, 3) := by decide +kernel
theorem dX_cut_88 : decode cX_cut 88 = .ok (.iload 6, 2) := by decide +kernel
theorem dX_cut_90 : decode cX_cut 90 = .ok (.iload_n 2, 1) := by decide +kernel
theorem dX_cut_91 : decode cX_cut 91 = .ok (.iastore, 1) := by decide +kernel
theorem dX_cut_92 : decode cX_cut 92 = .ok (.aload_n 0, 1) := by decide +kernel
theorem dX_cut_93 : decode cX_cut 93 = .ok (.getfield 31, 3) := by decide +kernel
theorem dX_cut_96 : decode cX_cut 96 = .ok (.iload 7, 2) := by decide +kernel
theorem dX_cut_98 : decode cX_cut 98 = .ok (.iload_n 2, 1) := by decide +kernel
theorem dX_cut_99 : decode cX_cut 99 = .ok (.iastore, 1) := by decide +kernel
theorem dX_cut_100 : decode cX_cut 100 = .ok (.iload 6, 2) := by decide +kernel
theorem dX_cut_102 : decode cX_cut 102 = .ok (.ireturn, 1) := by decide +kernel
theorem dX_weld_0 : decode cX_weld 0 = .ok (.aload_n 0, 1) := by decide +kernel
theorem dX_weld_1 : decode cX_weld 1 = .ok (.iload_n 1, 1) := by decide +kernel
theorem dX_weld_2 : decode cX_weld 2 = .ok (.invokevirtual 80, 3) := by decide +kernel
theorem dX_weld_5 : decode cX_weld 5 = .ok (.aload_n 0, 1) := by decide +kernel
theorem dX_weld_6 : decode cX_weld 6 = .ok (.iload_n 2, 1) := by decide +kernel
theorem dX_weld_7 : decode cX_weld 7 = .ok (.invokevirtual 80, 3) := by decide +kernel
theorem dX_weld_10 : decode cX_weld 10 = .ok (.iload_n 1, 1) := by decide +kernel
theorem dX_weld_11 : decode cX_weld 11 = .ok (.iload_n 2, 1) := by decide +kernel
theorem dX_weld_12 : decode cX_weld 12 = .ok (.if_icmp .ne 13, 3) := by decide +kernel
theorem dX_weld_15 : decode cX_weld 15 = .ok (.new 86, 3) := by decide +kernel
theorem dX_weld_18 : decode cX_weld 18 = .ok (.dup, 1) := by decide +kernel
theorem dX_weld_19 : decode cX_weld 19 = .ok (.ldc 88, 2) := by decide +kernel
theorem dX_weld_21 : decode cX_weld 21 = .ok (.invokespecial 90, 3) := by decide +kernel
theorem dX_weld_24 : decode cX_weld 24 = .ok (.athrow, 1) := by decide +kernel
theorem dX_weld_25 : decode cX_weld 25 = .ok (.aload_n 0, 1) := by decide +kernel
theorem dX_weld_26 : decode cX_weld 26 = .ok (.iload_n 1, 1) := by decide +kernel
theorem dX_weld_27 : decode cX_weld 27 = .ok (.invokevirtual 83, 3) := by decide +kernel
theorem dX_weld_30 : decode cX_weld 30 = .ok (.aload_n 0, 1) := by decide +kernel
theorem dX_weld_31 : decode cX_weld 31 = .ok (.iload_n 2, 1) := by decide +kernel
theorem dX_weld_32 : decode cX_weld 32 = .ok (.invokevirtual 83, 3) := by decide +kernel
theorem dX_weld_35 : decode cX_weld 35 = .ok (.aload_n 0, 1) := by decide +kernel
theorem dX_weld_36 : decode cX_weld 36 = .ok (.iconst 1, 1) := by decide +kernel
theorem dX_weld_37 : decode cX_weld 37 = .ok (.invokevirtual 68, 3) := by decide +kernel
theorem dX_weld_40 : decode cX_weld 40 = .ok (.aload_n 0, 1) := by decide +kernel
theorem dX_weld_41 : decode cX_weld 41 = .ok (.getfield 13, 3) := by decide +kernel
theorem dX_weld_44 : decode cX_weld 44 = .ok (.iload_n 1, 1) := by decide +kernel
theorem dX_weld_45 : decode cX_weld 45 = .ok (.iaload, 1) := by decide +kernel
theorem dX_weld_46 : decode cX_weld 46 = .ok (.i2l, 1) := by decide +kernel
theorem dX_weld_47 : decode cX_weld 47 = .ok (.aload_n 0, 1) := by decide +kernel
theorem dX_weld_48 : decode cX_weld 48 = .ok (.getfield 13, 3) := by decide +kernel
theorem dX_weld_51 : decode cX_weld 51 = .ok (.iload_n 2, 1) := by decide +kernel
theorem dX_weld_52 : decode cX_weld 52 = .ok (.iaload, 1) := by decide +kernel
theorem dX_weld_53 : decode cX_weld 53 = .ok (.i2l, 1) := by decide +kernel
theorem dX_weld_54 : decode cX_weld 54 = .ok (.ladd, 1) := by decide +kernel
theorem dX_weld_55 : decode cX_weld 55 = .ok (.lstore_n 3, 1) := by decide +kernel
theorem dX_weld_56 : decode cX_weld 56 = .ok (.aload_n 0, 1) := by decide +kernel
theorem dX_weld_57 : decode cX_weld 57 = .ok (.getfield 16, 3) := by decide +kernel
theorem dX_weld_60 : decode cX_weld 60 = .ok (.iload_n 1, 1) := by decide +kernel
theorem dX_weld_61 : decode cX_weld 61 = .ok (.iaload, 1) := by decide +kernel
theorem dX_weld_62 : decode cX_weld 62 = .ok (.i2l, 1) := by decide +kernel
theorem dX_weld_63 : decode cX_weld 63 = .ok (.aload_n 0, 1) := by decide +kernel
theorem dX_weld_64 : decode cX_weld 64 = .ok (.getfield 16, 3) := by decide +kernel
theorem dX_weld_67 : decode cX_weld 67 = .ok (.iload_n 2, 1) := by decide +kernel
theorem dX_weld_68 : decode cX_weld 68 = .ok (.iaload, 1) := by decide +kernel
theorem dX_weld_69 : decode cX_weld 69 = .ok (.i2l, 1) := by decide +kernel
theorem dX_weld_70 : decode cX_weld 70 = .ok (.ladd, 1) := by decide +kernel
theorem dX_weld_71 : decode cX_weld 71 = .ok (.lstore 5, 2) := by decide +kernel
theorem dX_weld_73 : decode cX_weld 73 = .ok (.lload_n 3, 1) := by decide +kernel
theorem dX_weld_74 : decode cX_weld 74 = .ok (.ldc2_w 93, 3) := by decide +kernel
theorem dX_weld_77 : decode cX_weld 77 = .ok (.lcmp, 1) := by decide +kernel
theorem dX_weld_78 : decode cX_weld 78 = .ok (.ifCond .gt 12, 3) := by decide +kernel
theorem dX_weld_81 : decode cX_weld 81 = .ok (.lload 5, 2) := by decide +kernel
theorem dX_weld_83 : decode cX_weld 83 = .ok (.ldc2_w 93, 3) := by decide +kernel
theorem dX_weld_86 : decode cX_weld 86 = .ok (.lcmp, 1) := by decide +kernel
theorem dX_weld_87 : decode cX_weld 87 = .ok (.ifCond .le 13, 3) := by decide +kernel
theorem dX_weld_90 : decode cX_weld 90 = .ok (.new 95, 3) := by decide +kernel
theorem dX_weld_93 : decode cX_weld 93 = .ok (.dup, 1) := by decide +kernel
theorem dX_weld_94 : decode cX_weld 94 = .ok (.ldc 97, 2) := by decide +kernel
theorem dX_weld_96 : decode cX_weld 96 = .ok (.invokespecial 99, 3) := by decide +kernel
theorem dX_weld_99 : decode cX_weld 99 = .ok (.athrow, 1) := by decide +kernel
theorem dX_weld_100 : decode cX_weld 100 = .ok (.aload_n 0, 1) := by decide +kernel
theorem dX_weld_101 : decode cX_weld 101 = .ok (.getfield 19, 3) := by decide +kernel
theorem dX_weld_104 : decode cX_weld 104 = .ok (.iload_n 1, 1) := by decide +kernel
theorem dX_weld_105 : decode cX_weld 105 = .ok (.iconst 1, 1) := by decide +kernel
theorem dX_weld_106 : decode cX_weld 106 = .ok (.iastore, 1) := by decide +kernel
theorem dX_weld_107 : decode cX_weld 107 = .ok (.aload_n 0, 1) := by decide +kernel
theorem dX_weld_108 : decode cX_weld 108 = .ok (.getfield 19, 3) := by decide +kernel
theorem dX_weld_111 : decode cX_weld 111 = .ok (.iload_n 2, 1) := by decide +kernel
theorem dX_weld_112 : decode cX_weld 112 = .ok (.iconst 1, 1) := by decide +kernel
theorem dX_weld_113 : decode cX_weld 113 = .ok (.iastore, 1) := by decide +kernel
theorem dX_weld_114 : decode cX_weld 114 = .ok (.aload_n 0, 1) := by decide +kernel
theorem dX_weld_115 : decode cX_weld 115 = .ok (.iconst 3, 1) := by decide +kernel
theorem dX_weld_116 : decode cX_weld 116 = .ok (.iload_n 1, 1) := by decide +kernel
theorem dX_weld_117 : decode cX_weld 117 = .ok (.lload_n 3, 1) := by decide +kernel
theorem dX_weld_118 : decode cX_weld 118 = .ok (.l2i, 1) := by decide +kernel
theorem dX_weld_119 : decode cX_weld 119 = .ok (.lload 5, 2) := by decide +kernel
theorem dX_weld_121 : decode cX_weld 121 = .ok (.l2i, 1) := by decide +kernel
theorem dX_weld_122 : decode cX_weld 122 = .ok (.invokevirtual 76, 3) := by decide +kernel
theorem dX_weld_125 : decode cX_weld 125 = .ok (.istore 7, 2) := by decide +kernel
theorem dX_weld_127 : decode cX_weld 127 = .ok (.aload_n 0, 1) := by decide +kernel
theorem dX_weld_128 : decode cX_weld 128 = .ok (.getfield 25, 3) := by decide +kernel
theorem dX_weld_131 : decode cX_weld 131 = .ok (.iload 7, 2) := by decide +kernel
theorem dX_weld_133 : decode cX_weld 133 = .ok (.iload_n 2, 1) := by decide +kernel
theorem dX_weld_134 : decode cX_weld 134 = .ok (.iastore, 1) := by decide +kernel
theorem dX_weld_135 : decode cX_weld 135 = .ok (.aload_n 0, 1) := by decide +kernel
theorem dX_weld_136 : decode cX_weld 136 = .ok (.getfield 31, 3) := by decide +kernel
theorem dX_weld_139 : decode cX_weld 139 = .ok (.iload 7, 2) := by decide +kernel
theorem dX_weld_141 : decode cX_weld 141 = .ok (.aload_n 0, 1) := by decide +kernel
theorem dX_weld_142 : decode cX_weld 142 = .ok (.getfield 16, 3) := by decide +kernel
theorem dX_weld_145 : decode cX_weld 145 = .ok (.iload_n 1, 1) := by decide +kernel
theorem dX_weld_146 : decode cX_weld 146 = .ok (.iaload, 1) := by decide +kernel
theorem dX_weld_147 : decode cX_weld 147 = .ok (.iastore, 1) := by decide +kernel
theorem dX_weld_148 : decode cX_weld 148 = .ok (.aload_n 0, 1) := by decide +kernel
theorem dX_weld_149 : decode cX_weld 149 = .ok (.getfield 28, 3) := by decide +kernel
theorem dX_weld_152 : decode cX_weld 152 = .ok (.iload 7, 2) := by decide +kernel
theorem dX_weld_154 : decode cX_weld 154 = .ok (.aload_n 0, 1) := by decide +kernel
theorem dX_weld_155 : decode cX_weld 155 = .ok (.getfield 28, 3) := by decide +kernel
theorem dX_weld_158 : decode cX_weld 158 = .ok (.iload_n 1, 1) := by decide +kernel
theorem dX_weld_159 : decode cX_weld 159 = .ok (.iaload, 1) := by decide +kernel
theorem dX_weld_160 : decode cX_weld 160 = .ok (.aload_n 0, 1) := by decide +kernel
theorem dX_weld_161 : decode cX_weld 161 = .ok (.getfield 28, 3) := by decide +kernel
theorem dX_weld_164 : decode cX_weld 164 = .ok (.iload_n 2, 1) := by decide +kernel
theorem dX_weld_165 : decode cX_weld 165 = .ok (.iaload, 1) := by decide +kernel
theorem dX_weld_166 : decode cX_weld 166 = .ok (.invokestatic 100, 3) := by decide +kernel
theorem dX_weld_169 : decode cX_weld 169 = .ok (.iastore, 1) := by decide +kernel
theorem dX_weld_170 : decode cX_weld 170 = .ok (.iload 7, 2) := by decide +kernel
theorem dX_weld_172 : decode cX_weld 172 = .ok (.ireturn, 1) := by decide +kernel
theorem dX_roll_0 : decode cX_roll 0 = .ok (.aload_n 0, 1) := by decide +kernel
theorem dX_roll_1 : decode cX_roll 1 = .ok (.iload_n 1, 1) := by decide +kernel
theorem dX_roll_2 : decode cX_roll 2 = .ok (.invokevirtual 80, 3) := by decide +kernel
theorem dX_roll_5 : decode cX_roll 5 = .ok (.aload_n 0, 1) := by decide +kernel
theorem dX_roll_6 : decode cX_roll 6 = .ok (.iload_n 1, 1) := by decide +kernel
theorem dX_roll_7 : decode cX_roll 7 = .ok (.invokevirtual 83, 3) := by decide +kernel
theorem dX_roll_10 : decode cX_roll 10 = .ok (.iload_n 2, 1) := by decide +kernel
theorem dX_roll_11 : decode cX_roll 11 = .ok (.iconst 1, 1) := by decide +kernel
theorem dX_roll_12 : decode cX_roll 12 = .ok (.bipush 20, 2) := by decide +kernel
theorem dX_roll_14 : decode cX_roll 14 = .ok (.invokestatic 64, 3) := by decide +kernel
theorem dX_roll_17 : decode cX_roll 17 = .ok (.iload_n 3, 1) := by decide +kernel
theorem dX_roll_18 : decode cX_roll 18 = .ok (.iconst 1, 1) := by decide +kernel
theorem dX_roll_19 : decode cX_roll 19 = .ok (.bipush 20, 2) := by decide +kernel
theorem dX_roll_21 : decode cX_roll 21 = .ok (.invokestatic 64, 3) := by decide +kernel
theorem dX_roll_24 : decode cX_roll 24 = .ok (.aload_n 0, 1) := by decide +kernel
theorem dX_roll_25 : decode cX_roll 25 = .ok (.iconst 1, 1) := by decide +kernel
theorem dX_roll_26 : decode cX_roll 26 = .ok (.invokevirtual 68, 3) := by decide +kernel
theorem dX_roll_29 : decode cX_roll 29 = .ok (.aload_n 0, 1) := by decide +kernel
theorem dX_roll_30 : decode cX_roll 30 = .ok (.getfield 28, 3) := by decide +kernel
theorem dX_roll_33 : decode cX_roll 33 = .ok (.iload_n 1, 1) := by decide +kernel
theorem dX_roll_34 : decode cX_roll 34 = .ok (.iaload, 1) := by decide +kernel
theorem dX_roll_35 : decode cX_roll 35 = .ok (.iconst 3, 1) := by decide +kernel
theorem dX_roll_36 : decode cX_roll 36 = .ok (.if_icmp .lt 13, 3) := by decide +kernel
theorem dX_roll_39 : decode cX_roll 39 = .ok (.new 95, 3) := by decide +kernel
theorem dX_roll_42 : decode cX_roll 42 = .ok (.dup, 1) := by decide +kernel
theorem dX_roll_43 : decode cX_roll 43 = .ok (.ldc 106, 2) := by decide +kernel
theorem dX_roll_45 : decode cX_roll 45 = .ok (.invokespecial 99, 3) := by decide +kernel
theorem dX_roll_48 : decode cX_roll 48 = .ok (.athrow, 1) := by decide +kernel
theorem dX_roll_49 : decode cX_roll 49 = .ok (.aload_n 0, 1) := by decide +kernel
theorem dX_roll_50 : decode cX_roll 50 = .ok (.getfield 16, 3) := by decide +kernel
theorem dX_roll_53 : decode cX_roll 53 = .ok (.iload_n 1, 1) := by decide +kernel
theorem dX_roll_54 : decode cX_roll 54 = .ok (.iaload, 1) := by decide +kernel
theorem dX_roll_55 : decode cX_roll 55 = .ok (.i2l, 1) := by decide +kernel
theorem dX_roll_56 : decode cX_roll 56 = .ok (.iload_n 2, 1) := by decide +kernel
theorem dX_roll_57 : decode cX_roll 57 = .ok (.i2l, 1) := by decide +kernel
theorem dX_roll_58 : decode cX_roll 58 = .ok (.lmul, 1) := by decide +kernel
theorem dX_roll_59 : decode cX_roll 59 = .ok (.iload_n 3, 1) := by decide +kernel
theorem dX_roll_60 : decode cX_roll 60 = .ok (.i2l, 1) := by decide +kernel
theorem dX_roll_61 : decode cX_roll 61 = .ok (.ldiv, 1) := by decide +kernel
theorem dX_roll_62 : decode cX_roll 62 = .ok (.lstore 4, 2) := by decide +kernel
theorem dX_roll_64 : decode cX_roll 64 = .ok (.lload 4, 2) := by decide +kernel
theorem dX_roll_66 : decode cX_roll 66 = .ok (.lconst 1, 1) := by decide +kernel
theorem dX_roll_67 : decode cX_roll 67 = .ok (.lcmp, 1) := by decide +kernel
theorem dX_roll_68 : decode cX_roll 68 = .ok (.ifCond .lt 12, 3) := by decide +kernel
theorem dX_roll_71 : decode cX_roll 71 = .ok (.lload 4, 2) := by decide +kernel
theorem dX_roll_73 : decode cX_roll 73 = .ok (.ldc2_w 93, 3) := by decide +kernel
theorem dX_roll_76 : decode cX_roll 76 = .ok (.lcmp, 1) := by decide +kernel
theorem dX_roll_77 : decode cX_roll 77 = .ok (.ifCond .le 13, 3) := by decide +kernel
theorem dX_roll_80 : decode cX_roll 80 = .ok (.new 95, 3) := by decide +kernel
theorem dX_roll_83 : decode cX_roll 83 = .ok (.dup, 1) := by decide +kernel
theorem dX_roll_84 : decode cX_roll 84 = .ok (.ldc 108, 2) := by decide +kernel
theorem dX_roll_86 : decode cX_roll 86 = .ok (.invokespecial 99, 3) := by decide +kernel
theorem dX_roll_89 : decode cX_roll 89 = .ok (.athrow, 1) := by decide +kernel
theorem dX_roll_90 : decode cX_roll 90 = .ok (.aload_n 0, 1) := by decide +kernel
theorem dX_roll_91 : decode cX_roll 91 = .ok (.getfield 19, 3) := by decide +kernel
theorem dX_roll_94 : decode cX_roll 94 = .ok (.iload_n 1, 1) := by decide +kernel
theorem dX_roll_95 : decode cX_roll 95 = .ok (.iconst 1, 1) := by decide +kernel
theorem dX_roll_96 : decode cX_roll 96 = .ok (.iastore, 1) := by decide +kernel
theorem dX_roll_97 : decode cX_roll 97 = .ok (.aload_n 0, 1) := by decide +kernel
theorem dX_roll_98 : decode cX_roll 98 = .ok (.iconst 4, 1) := by decide +kernel
theorem dX_roll_99 : decode cX_roll 99 = .ok (.iload_n 1, 1) := by decide +kernel
theorem dX_roll_100 : decode cX_roll 100 = .ok (.aload_n 0, 1) := by decide +kernel
theorem dX_roll_101 : decode cX_roll 101 = .ok (.getfield 13, 3) := by decide +kernel
theorem dX_roll_104 : decode cX_roll 104 = .ok (.iload_n 1, 1) := by decide +kernel
theorem dX_roll_105 : decode cX_roll 105 = .ok (.iaload, 1) := by decide +kernel
theorem dX_roll_106 : decode cX_roll 106 = .ok (.lload 4, 2) := by decide +kernel
theorem dX_roll_108 : decode cX_roll 108 = .ok (.l2i, 1) := by decide +kernel
theorem dX_roll_109 : decode cX_roll 109 = .ok (.invokevirtual 76, 3) := by decide +kernel
theorem dX_roll_112 : decode cX_roll 112 = .ok (.istore 6, 2) := by decide +kernel
theorem dX_roll_114 : decode cX_roll 114 = .ok (.aload_n 0, 1) := by decide +kernel
theorem dX_roll_115 : decode cX_roll 115 = .ok (.getfield 34, 3) := by decide +kernel
theorem dX_roll_118 : decode cX_roll 118 = .ok (.iload 6, 2) := by decide +kernel
theorem dX_roll_120 : decode cX_roll 120 = .ok (.iload_n 2, 1) := by decide +kernel
theorem dX_roll_121 : decode cX_roll 121 = .ok (.iastore, 1) := by decide +kernel
theorem dX_roll_122 : decode cX_roll 122 = .ok (.aload_n 0, 1) := by decide +kernel
theorem dX_roll_123 : decode cX_roll 123 = .ok (.getfield 37, 3) := by decide +kernel
theorem dX_roll_126 : decode cX_roll 126 = .ok (.iload 6, 2) := by decide +kernel
theorem dX_roll_128 : decode cX_roll 128 = .ok (.iload_n 3, 1) := by decide +kernel
theorem dX_roll_129 : decode cX_roll 129 = .ok (.iastore, 1) := by decide +kernel
theorem dX_roll_130 : decode cX_roll 130 = .ok (.aload_n 0, 1) := by decide +kernel
theorem dX_roll_131 : decode cX_roll 131 = .ok (.getfield 28, 3) := by decide +kernel
theorem dX_roll_134 : decode cX_roll 134 = .ok (.iload 6, 2) := by decide +kernel
theorem dX_roll_136 : decode cX_roll 136 = .ok (.aload_n 0, 1) := by decide +kernel
theorem dX_roll_137 : decode cX_roll 137 = .ok (.getfield 28, 3) := by decide +kernel
theorem dX_roll_140 : decode cX_roll 140 = .ok (.iload_n 1, 1) := by decide +kernel
theorem dX_roll_141 : decode cX_roll 141 = .ok (.iaload, 1) := by decide +kernel
theorem dX_roll_142 : decode cX_roll 142 = .ok (.iconst 1, 1) := by decide +kernel
theorem dX_roll_143 : decode cX_roll 143 = .ok (.iadd, 1) := by decide +kernel
theorem dX_roll_144 : decode cX_roll 144 = .ok (.iastore, 1) := by decide +kernel
theorem dX_roll_145 : decode cX_roll 145 = .ok (.iload 6, 2) := by decide +kernel
theorem dX_roll_147 : decode cX_roll 147 = .ok (.ireturn, 1) := by decide +kernel
theorem dX_slit_0 : decode cX_slit 0 = .ok (.aload_n 0, 1) := by decide +kernel
theorem dX_slit_1 : decode cX_slit 1 = .ok (.iload_n 1, 1) := by decide +kernel
theorem dX_slit_2 : decode cX_slit 2 = .ok (.invokevirtual 80, 3) := by decide +kernel
theorem dX_slit_5 : decode cX_slit 5 = .ok (.aload_n 0, 1) := by decide +kernel
theorem dX_slit_6 : decode cX_slit 6 = .ok (.iload_n 1, 1) := by decide +kernel
theorem dX_slit_7 : decode cX_slit 7 = .ok (.invokevirtual 83, 3) := by decide +kernel
theorem dX_slit_10 : decode cX_slit 10 = .ok (.iload_n 2, 1) := by decide +kernel
theorem dX_slit_11 : decode cX_slit 11 = .ok (.iconst 2, 1) := by decide +kernel
theorem dX_slit_12 : decode cX_slit 12 = .ok (.iconst 4, 1) := by decide +kernel
theorem dX_slit_13 : decode cX_slit 13 = .ok (.invokestatic 64, 3) := by decide +kernel
theorem dX_slit_16 : decode cX_slit 16 = .ok (.aload_n 0, 1) := by decide +kernel
theorem dX_slit_17 : decode cX_slit 17 = .ok (.iload_n 2, 1) := by decide +kernel
theorem dX_slit_18 : decode cX_slit 18 = .ok (.invokevirtual 68, 3) := by decide +kernel
theorem dX_slit_21 : decode cX_slit 21 = .ok (.aload_n 0, 1) := by decide +kernel
theorem dX_slit_22 : decode cX_slit 22 = .ok (.getfield 13, 3) := by decide +kernel
theorem dX_slit_25 : decode cX_slit 25 = .ok (.iload_n 1, 1) := by decide +kernel
theorem dX_slit_26 : decode cX_slit 26 = .ok (.iaload, 1) := by decide +kernel
theorem dX_slit_27 : decode cX_slit 27 = .ok (.iload_n 2, 1) := by decide +kernel
theorem dX_slit_28 : decode cX_slit 28 = .ok (.idiv, 1) := by decide +kernel
theorem dX_slit_29 : decode cX_slit 29 = .ok (.istore_n 3, 1) := by decide +kernel
theorem dX_slit_30 : decode cX_slit 30 = .ok (.aload_n 0, 1) := by decide +kernel
theorem dX_slit_31 : decode cX_slit 31 = .ok (.getfield 13, 3) := by decide +kernel
theorem dX_slit_34 : decode cX_slit 34 = .ok (.iload_n 1, 1) := by decide +kernel
theorem dX_slit_35 : decode cX_slit 35 = .ok (.iaload, 1) := by decide +kernel
theorem dX_slit_36 : decode cX_slit 36 = .ok (.iload_n 3, 1) := by decide +kernel
theorem dX_slit_37 : decode cX_slit 37 = .ok (.iload_n 2, 1) := by decide +kernel
theorem dX_slit_38 : decode cX_slit 38 = .ok (.iconst 1, 1) := by decide +kernel
theorem dX_slit_39 : decode cX_slit 39 = .ok (.isub, 1) := by decide +kernel
theorem dX_slit_40 : decode cX_slit 40 = .ok (.imul, 1) := by decide +kernel
theorem dX_slit_41 : decode cX_slit 41 = .ok (.isub, 1) := by decide +kernel
theorem dX_slit_42 : decode cX_slit 42 = .ok (.istore 4, 2) := by decide +kernel
theorem dX_slit_44 : decode cX_slit 44 = .ok (.aload_n 0, 1) := by decide +kernel
theorem dX_slit_45 : decode cX_slit 45 = .ok (.getfield 19, 3) := by decide +kernel
theorem dX_slit_48 : decode cX_slit 48 = .ok (.iload_n 1, 1) := by decide +kernel
theorem dX_slit_49 : decode cX_slit 49 = .ok (.iconst 1, 1) := by decide +kernel
theorem dX_slit_50 : decode cX_slit 50 = .ok (.iastore, 1) := by decide +kernel
theorem dX_slit_51 : decode cX_slit 51 = .ok (.aload_n 0, 1) := by decide +kernel
theorem dX_slit_52 : decode cX_slit 52 = .ok (.iconst 5, 1) := by decide +kernel
theorem dX_slit_53 : decode cX_slit 53 = .ok (.iload_n 1, 1) := by decide +kernel
theorem dX_slit_54 : decode cX_slit 54 = .ok (.iload 4, 2) := by decide +kernel
theorem dX_slit_56 : decode cX_slit 56 = .ok (.aload_n 0, 1) := by decide +kernel
theorem dX_slit_57 : decode cX_slit 57 = .ok (.getfield 16, 3) := by decide +kernel
theorem dX_slit_60 : decode cX_slit 60 = .ok (.iload_n 1, 1) := by decide +kernel
theorem dX_slit_61 : decode cX_slit 61 = .ok (.iaload, 1) := by decide +kernel
theorem dX_slit_62 : decode cX_slit 62 = .ok (.invokevirtual 76, 3) := by decide +kernel
theorem dX_slit_65 : decode cX_slit 65 = .ok (.istore 5, 2) := by decide +kernel
theorem dX_slit_67 : decode cX_slit 67 = .ok (.iconst 1, 1) := by decide +kernel
theorem dX_slit_68 : decode cX_slit 68 = .ok (.istore 6, 2) := by decide +kernel
theorem dX_slit_70 : decode cX_slit 70 = .ok (.iload 6, 2) := by decide +kernel
theorem dX_slit_72 : decode cX_slit 72 = .ok (.iload_n 2, 1) := by decide +kernel
theorem dX_slit_73 : decode cX_slit 73 = .ok (.if_icmp .ge 23, 3) := by decide +kernel
theorem dX_slit_76 : decode cX_slit 76 = .ok (.aload_n 0, 1) := by decide +kernel
theorem dX_slit_77 : decode cX_slit 77 = .ok (.iconst 5, 1) := by decide +kernel
theorem dX_slit_78 : decode cX_slit 78 = .ok (.iload_n 1, 1) := by decide +kernel
theorem dX_slit_79 : decode cX_slit 79 = .ok (.iload_n 3, 1) := by decide +kernel
theorem dX_slit_80 : decode cX_slit 80 = .ok (.aload_n 0, 1) := by decide +kernel
theorem dX_slit_81 : decode cX_slit 81 = .ok (.getfield 16, 3) := by decide +kernel
theorem dX_slit_84 : decode cX_slit 84 = .ok (.iload_n 1, 1) := by decide +kernel
theorem dX_slit_85 : decode cX_slit 85 = .ok (.iaload, 1) := by decide +kernel
theorem dX_slit_86 : decode cX_slit 86 = .ok (.invokevirtual 76, 3) := by decide +kernel
theorem dX_slit_89 : decode cX_slit 89 = .ok (.pop, 1) := by decide +kernel
theorem dX_slit_90 : decode cX_slit 90 = .ok (.iinc 6 1, 3) := by decide +kernel
theorem dX_slit_93 : decode cX_slit 93 = .ok (.goto (-23), 3) := by decide +kernel
theorem dX_slit_96 : decode cX_slit 96 = .ok (.iload 5, 2) := by decide +kernel
theorem dX_slit_98 : decode cX_slit 98 = .ok (.ireturn, 1) := by decide +kernel
theorem dX_hold_0 : decode cX_hold 0 = .ok (.aload_n 0, 1) := by decide +kernel
theorem dX_hold_1 : decode cX_hold 1 = .ok (.iload_n 1, 1) := by decide +kernel
theorem dX_hold_2 : decode cX_hold 2 = .ok (.invokevirtual 80, 3) := by decide +kernel
theorem dX_hold_5 : decode cX_hold 5 = .ok (.aload_n 0, 1) := by decide +kernel
theorem dX_hold_6 : decode cX_hold 6 = .ok (.getfield 19, 3) := by decide +kernel
theorem dX_hold_9 : decode cX_hold 9 = .ok (.iload_n 1, 1) := by decide +kernel
theorem dX_hold_10 : decode cX_hold 10 = .ok (.iaload, 1) := by decide +kernel
theorem dX_hold_11 : decode cX_hold 11 = .ok (.iload_n 2, 1) := by decide +kernel
theorem dX_hold_12 : decode cX_hold 12 = .ok (.ifCond .eq 7, 3) := by decide +kernel
theorem dX_hold_15 : decode cX_hold 15 = .ok (.iconst 0, 1) := by decide +kernel
theorem dX_hold_16 : decode cX_hold 16 = .ok (.goto 4, 3) := by decide +kernel
theorem dX_hold_19 : decode cX_hold 19 = .ok (.iconst 3, 1) := by decide +kernel
theorem dX_hold_20 : decode cX_hold 20 = .ok (.if_icmp .eq 13, 3) := by decide +kernel
theorem dX_hold_23 : decode cX_hold 23 = .ok (.new 110, 3) := by decide +kernel
theorem dX_hold_26 : decode cX_hold 26 = .ok (.dup, 1) := by decide +kernel
theorem dX_hold_27 : decode cX_hold 27 = .ok (.ldc 112, 2) := by decide +kernel
theorem dX_hold_29 : decode cX_hold 29 = .ok (.invokespecial 114, 3) := by decide +kernel
theorem dX_hold_32 : decode cX_hold 32 = .ok (.athrow, 1) := by decide +kernel
theorem dX_hold_33 : decode cX_hold 33 = .ok (.aload_n 0, 1) := by decide +kernel
theorem dX_hold_34 : decode cX_hold 34 = .ok (.getfield 19, 3) := by decide +kernel
theorem dX_hold_37 : decode cX_hold 37 = .ok (.iload_n 1, 1) := by decide +kernel
theorem dX_hold_38 : decode cX_hold 38 = .ok (.iload_n 2, 1) := by decide +kernel
theorem dX_hold_39 : decode cX_hold 39 = .ok (.ifCond .eq 7, 3) := by decide +kernel
theorem dX_hold_42 : decode cX_hold 42 = .ok (.iconst 3, 1) := by decide +kernel
theorem dX_hold_43 : decode cX_hold 43 = .ok (.goto 4, 3) := by decide +kernel
theorem dX_hold_46 : decode cX_hold 46 = .ok (.iconst 0, 1) := by decide +kernel
theorem dX_hold_47 : decode cX_hold 47 = .ok (.iastore, 1) := by decide +kernel
theorem dX_hold_48 : decode cX_hold 48 = .ok (.return_, 1) := by decide +kernel
theorem dX_scrap_0 : decode cX_scrap 0 = .ok (.aload_n 0, 1) := by decide +kernel
theorem dX_scrap_1 : decode cX_scrap 1 = .ok (.iload_n 1, 1) := by decide +kernel
theorem dX_scrap_2 : decode cX_scrap 2 = .ok (.invokevirtual 80, 3) := by decide +kernel
theorem dX_scrap_5 : decode cX_scrap 5 = .ok (.aload_n 0, 1) := by decide +kernel
theorem dX_scrap_6 : decode cX_scrap 6 = .ok (.iload_n 1, 1) := by decide +kernel
theorem dX_scrap_7 : decode cX_scrap 7 = .ok (.invokevirtual 83, 3) := by decide +kernel
theorem dX_scrap_10 : decode cX_scrap 10 = .ok (.aload_n 0, 1) := by decide +kernel
theorem dX_scrap_11 : decode cX_scrap 11 = .ok (.getfield 19, 3) := by decide +kernel
theorem dX_scrap_14 : decode cX_scrap 14 = .ok (.iload_n 1, 1) := by decide +kernel
theorem dX_scrap_15 : decode cX_scrap 15 = .ok (.iconst 2, 1) := by decide +kernel
theorem dX_scrap_16 : decode cX_scrap 16 = .ok (.iastore, 1) := by decide +kernel
theorem dX_scrap_17 : decode cX_scrap 17 = .ok (.aload_n 0, 1) := by decide +kernel
theorem dX_scrap_18 : decode cX_scrap 18 = .ok (.dup, 1) := by decide +kernel
theorem dX_scrap_19 : decode cX_scrap 19 = .ok (.getfield 115, 3) := by decide +kernel
theorem dX_scrap_22 : decode cX_scrap 22 = .ok (.aload_n 0, 1) := by decide +kernel
theorem dX_scrap_23 : decode cX_scrap 23 = .ok (.getfield 13, 3) := by decide +kernel
theorem dX_scrap_26 : decode cX_scrap 26 = .ok (.iload_n 1, 1) := by decide +kernel
theorem dX_scrap_27 : decode cX_scrap 27 = .ok (.iaload, 1) := by decide +kernel
theorem dX_scrap_28 : decode cX_scrap 28 = .ok (.iadd, 1) := by decide +kernel
theorem dX_scrap_29 : decode cX_scrap 29 = .ok (.putfield 115, 3) := by decide +kernel
theorem dX_scrap_32 : decode cX_scrap 32 = .ok (.aload_n 0, 1) := by decide +kernel
theorem dX_scrap_33 : decode cX_scrap 33 = .ok (.getfield 115, 3) := by decide +kernel
theorem dX_scrap_36 : decode cX_scrap 36 = .ok (.ireturn, 1) := by decide +kernel
theorem dX_back_0 : decode cX_back 0 = .ok (.iload_n 1, 1) := by decide +kernel
theorem dX_back_1 : decode cX_back 1 = .ok (.iconst 1, 1) := by decide +kernel
theorem dX_back_2 : decode cX_back 2 = .ok (.bipush 100, 2) := by decide +kernel
theorem dX_back_4 : decode cX_back 4 = .ok (.invokestatic 64, 3) := by decide +kernel
theorem dX_back_7 : decode cX_back 7 = .ok (.iload_n 2, 1) := by decide +kernel
theorem dX_back_8 : decode cX_back 8 = .ok (.iconst 1, 1) := by decide +kernel
theorem dX_back_9 : decode cX_back 9 = .ok (.ldc 63, 2) := by decide +kernel
theorem dX_back_11 : decode cX_back 11 = .ok (.invokestatic 64, 3) := by decide +kernel
theorem dX_back_14 : decode cX_back 14 = .ok (.aload_n 0, 1) := by decide +kernel
theorem dX_back_15 : decode cX_back 15 = .ok (.iconst 1, 1) := by decide +kernel
theorem dX_back_16 : decode cX_back 16 = .ok (.invokevirtual 68, 3) := by decide +kernel
theorem dX_back_19 : decode cX_back 19 = .ok (.aload_n 0, 1) := by decide +kernel
theorem dX_back_20 : decode cX_back 20 = .ok (.getfield 115, 3) := by decide +kernel
theorem dX_back_23 : decode cX_back 23 = .ok (.i2l, 1) := by decide +kernel
theorem dX_back_24 : decode cX_back 24 = .ok (.iload_n 1, 1) := by decide +kernel
theorem dX_back_25 : decode cX_back 25 = .ok (.i2l, 1) := by decide +kernel
theorem dX_back_26 : decode cX_back 26 = .ok (.lmul, 1) := by decide +kernel
theorem dX_back_27 : decode cX_back 27 = .ok (.ldc2_w 119, 3) := by decide +kernel
theorem dX_back_30 : decode cX_back 30 = .ok (.ldiv, 1) := by decide +kernel
theorem dX_back_31 : decode cX_back 31 = .ok (.l2i, 1) := by decide +kernel
theorem dX_back_32 : decode cX_back 32 = .ok (.istore_n 3, 1) := by decide +kernel
theorem dX_back_33 : decode cX_back 33 = .ok (.iload_n 3, 1) := by decide +kernel
theorem dX_back_34 : decode cX_back 34 = .ok (.iconst 1, 1) := by decide +kernel
theorem dX_back_35 : decode cX_back 35 = .ok (.if_icmp .ge 13, 3) := by decide +kernel
theorem dX_back_38 : decode cX_back 38 = .ok (.new 95, 3) := by decide +kernel
theorem dX_back_41 : decode cX_back 41 = .ok (.dup, 1) := by decide +kernel
theorem dX_back_42 : decode cX_back 42 = .ok (.ldc 121, 2) := by decide +kernel
theorem dX_back_44 : decode cX_back 44 = .ok (.invokespecial 99, 3) := by decide +kernel
theorem dX_back_47 : decode cX_back 47 = .ok (.athrow, 1) := by decide +kernel
theorem dX_back_48 : decode cX_back 48 = .ok (.aload_n 0, 1) := by decide +kernel
theorem dX_back_49 : decode cX_back 49 = .ok (.dup, 1) := by decide +kernel
theorem dX_back_50 : decode cX_back 50 = .ok (.getfield 115, 3) := by decide +kernel
theorem dX_back_53 : decode cX_back 53 = .ok (.iload_n 3, 1) := by decide +kernel
theorem dX_back_54 : decode cX_back 54 = .ok (.isub, 1) := by decide +kernel
theorem dX_back_55 : decode cX_back 55 = .ok (.putfield 115, 3) := by decide +kernel
theorem dX_back_58 : decode cX_back 58 = .ok (.aload_n 0, 1) := by decide +kernel
theorem dX_back_59 : decode cX_back 59 = .ok (.iconst 0, 1) := by decide +kernel
theorem dX_back_60 : decode cX_back 60 = .ok (.iconst (-1), 1) := by decide +kernel
theorem dX_back_61 : decode cX_back 61 = .ok (.iload_n 3, 1) := by decide +kernel
theorem dX_back_62 : decode cX_back 62 = .ok (.iload_n 2, 1) := by decide +kernel
theorem dX_back_63 : decode cX_back 63 = .ok (.invokevirtual 76, 3) := by decide +kernel
theorem dX_back_66 : decode cX_back 66 = .ok (.ireturn, 1) := by decide +kernel
theorem dX_at_0 : decode cX_at 0 = .ok (.aload_n 0, 1) := by decide +kernel
theorem dX_at_1 : decode cX_at 1 = .ok (.iload_n 1, 1) := by decide +kernel
theorem dX_at_2 : decode cX_at 2 = .ok (.invokevirtual 80, 3) := by decide +kernel
theorem dX_at_5 : decode cX_at 5 = .ok (.iload_n 2, 1) := by decide +kernel
theorem dX_at_6 : decode cX_at 6 = .ok (.tableswitch 112 0 6 #[42, 49, 56, 75, 91, 98, 105], 42) := by decide +kernel
theorem dX_at_48 : decode cX_at 48 = .ok (.aload_n 0, 1) := by decide +kernel
theorem dX_at_49 : decode cX_at 49 = .ok (.getfield 13, 3) := by decide +kernel
theorem dX_at_52 : decode cX_at 52 = .ok (.iload_n 1, 1) := by decide +kernel
theorem dX_at_53 : decode cX_at 53 = .ok (.iaload, 1) := by decide +kernel
theorem dX_at_54 : decode cX_at 54 = .ok (.ireturn, 1) := by decide +kernel
theorem dX_at_55 : decode cX_at 55 = .ok (.aload_n 0, 1) := by decide +kernel
theorem dX_at_56 : decode cX_at 56 = .ok (.getfield 16, 3) := by decide +kernel
theorem dX_at_59 : decode cX_at 59 = .ok (.iload_n 1, 1) := by decide +kernel
theorem dX_at_60 : decode cX_at 60 = .ok (.iaload, 1) := by decide +kernel
theorem dX_at_61 : decode cX_at 61 = .ok (.ireturn, 1) := by decide +kernel
theorem dX_at_62 : decode cX_at 62 = .ok (.aload_n 0, 1) := by decide +kernel
theorem dX_at_63 : decode cX_at 63 = .ok (.iload_n 1, 1) := by decide +kernel
theorem dX_at_64 : decode cX_at 64 = .ok (.invokevirtual 123, 3) := by decide +kernel
theorem dX_at_67 : decode cX_at 67 = .ok (.ifCond .eq 7, 3) := by decide +kernel
theorem dX_at_70 : decode cX_at 70 = .ok (.iconst 0, 1) := by decide +kernel
theorem dX_at_71 : decode cX_at 71 = .ok (.goto 9, 3) := by decide +kernel
theorem dX_at_74 : decode cX_at 74 = .ok (.aload_n 0, 1) := by decide +kernel
theorem dX_at_75 : decode cX_at 75 = .ok (.getfield 19, 3) := by decide +kernel
theorem dX_at_78 : decode cX_at 78 = .ok (.iload_n 1, 1) := by decide +kernel
theorem dX_at_79 : decode cX_at 79 = .ok (.iaload, 1) := by decide +kernel
theorem dX_at_80 : decode cX_at 80 = .ok (.ireturn, 1) := by decide +kernel
theorem dX_at_81 : decode cX_at 81 = .ok (.aload_n 0, 1) := by decide +kernel
theorem dX_at_82 : decode cX_at 82 = .ok (.getfield 19, 3) := by decide +kernel
theorem dX_at_85 : decode cX_at 85 = .ok (.iload_n 1, 1) := by decide +kernel
theorem dX_at_86 : decode cX_at 86 = .ok (.iaload, 1) := by decide +kernel
theorem dX_at_87 : decode cX_at 87 = .ok (.iconst 3, 1) := by decide +kernel
theorem dX_at_88 : decode cX_at 88 = .ok (.if_icmp .ne 7, 3) := by decide +kernel
theorem dX_at_91 : decode cX_at 91 = .ok (.iconst 1, 1) := by decide +kernel
theorem dX_at_92 : decode cX_at 92 = .ok (.goto 4, 3) := by decide +kernel
theorem dX_at_95 : decode cX_at 95 = .ok (.iconst 0, 1) := by decide +kernel
theorem dX_at_96 : decode cX_at 96 = .ok (.ireturn, 1) := by decide +kernel
theorem dX_at_97 : decode cX_at 97 = .ok (.aload_n 0, 1) := by decide +kernel
theorem dX_at_98 : decode cX_at 98 = .ok (.getfield 22, 3) := by decide +kernel
theorem dX_at_101 : decode cX_at 101 = .ok (.iload_n 1, 1) := by decide +kernel
theorem dX_at_102 : decode cX_at 102 = .ok (.iaload, 1) := by decide +kernel
theorem dX_at_103 : decode cX_at 103 = .ok (.ireturn, 1) := by decide +kernel
theorem dX_at_104 : decode cX_at 104 = .ok (.aload_n 0, 1) := by decide +kernel
theorem dX_at_105 : decode cX_at 105 = .ok (.getfield 25, 3) := by decide +kernel
theorem dX_at_108 : decode cX_at 108 = .ok (.iload_n 1, 1) := by decide +kernel
theorem dX_at_109 : decode cX_at 109 = .ok (.iaload, 1) := by decide +kernel
theorem dX_at_110 : decode cX_at 110 = .ok (.ireturn, 1) := by decide +kernel
theorem dX_at_111 : decode cX_at 111 = .ok (.aload_n 0, 1) := by decide +kernel
theorem dX_at_112 : decode cX_at 112 = .ok (.getfield 28, 3) := by decide +kernel
theorem dX_at_115 : decode cX_at 115 = .ok (.iload_n 1, 1) := by decide +kernel
theorem dX_at_116 : decode cX_at 116 = .ok (.iaload, 1) := by decide +kernel
theorem dX_at_117 : decode cX_at 117 = .ok (.ireturn, 1) := by decide +kernel
theorem dX_at_118 : decode cX_at 118 = .ok (.new 86, 3) := by decide +kernel
theorem dX_at_121 : decode cX_at 121 = .ok (.dup, 1) := by decide +kernel
theorem dX_at_122 : decode cX_at 122 = .ok (.ldc 127, 2) := by decide +kernel
theorem dX_at_124 : decode cX_at 124 = .ok (.invokespecial 90, 3) := by decide +kernel
theorem dX_at_127 : decode cX_at 127 = .ok (.athrow, 1) := by decide +kernel
theorem dX_origin_0 : decode cX_origin 0 = .ok (.aload_n 0, 1) := by decide +kernel
theorem dX_origin_1 : decode cX_origin 1 = .ok (.iload_n 1, 1) := by decide +kernel
theorem dX_origin_2 : decode cX_origin 2 = .ok (.invokevirtual 80, 3) := by decide +kernel
theorem dX_origin_5 : decode cX_origin 5 = .ok (.iload_n 3, 1) := by decide +kernel
theorem dX_origin_6 : decode cX_origin 6 = .ok (.iconst 2, 1) := by decide +kernel
theorem dX_origin_7 : decode cX_origin 7 = .ok (.invokestatic 129, 3) := by decide +kernel
theorem dX_origin_10 : decode cX_origin 10 = .ok (.iload_n 2, 1) := by decide +kernel
theorem dX_origin_11 : decode cX_origin 11 = .ok (.iconst 0, 1) := by decide +kernel
theorem dX_origin_12 : decode cX_origin 12 = .ok (.aload_n 0, 1) := by decide +kernel
theorem dX_origin_13 : decode cX_origin 13 = .ok (.getfield 16, 3) := by decide +kernel
theorem dX_origin_16 : decode cX_origin 16 = .ok (.iload_n 1, 1) := by decide +kernel
theorem dX_origin_17 : decode cX_origin 17 = .ok (.iaload, 1) := by decide +kernel
theorem dX_origin_18 : decode cX_origin 18 = .ok (.iconst 1, 1) := by decide +kernel
theorem dX_origin_19 : decode cX_origin 19 = .ok (.isub, 1) := by decide +kernel
theorem dX_origin_20 : decode cX_origin 20 = .ok (.invokestatic 64, 3) := by decide +kernel
theorem dX_origin_23 : decode cX_origin 23 = .ok (.aload_n 0, 1) := by decide +kernel
theorem dX_origin_24 : decode cX_origin 24 = .ok (.iload_n 1, 1) := by decide +kernel
theorem dX_origin_25 : decode cX_origin 25 = .ok (.iload_n 2, 1) := by decide +kernel
theorem dX_origin_26 : decode cX_origin 26 = .ok (.invokevirtual 133, 3) := by decide +kernel
theorem dX_origin_29 : decode cX_origin 29 = .ok (.istore 4, 2) := by decide +kernel
theorem dX_origin_31 : decode cX_origin 31 = .ok (.iload_n 3, 1) := by decide +kernel
theorem dX_origin_32 : decode cX_origin 32 = .ok (.ifCond .ne 7, 3) := by decide +kernel
theorem dX_origin_35 : decode cX_origin 35 = .ok (.iload 4, 2) := by decide +kernel
theorem dX_origin_37 : decode cX_origin 37 = .ok (.i2l, 1) := by decide +kernel
theorem dX_origin_38 : decode cX_origin 38 = .ok (.lreturn, 1) := by decide +kernel
theorem dX_origin_39 : decode cX_origin 39 = .ok (.iload_n 3, 1) := by decide +kernel
theorem dX_origin_40 : decode cX_origin 40 = .ok (.iconst 1, 1) := by decide +kernel
theorem dX_origin_41 : decode cX_origin 41 = .ok (.if_icmp .ne 13, 3) := by decide +kernel
theorem dX_origin_44 : decode cX_origin 44 = .ok (.aload_n 0, 1) := by decide +kernel
theorem dX_origin_45 : decode cX_origin 45 = .ok (.getfield 53, 3) := by decide +kernel
theorem dX_origin_48 : decode cX_origin 48 = .ok (.getfield 136, 3) := by decide +kernel
theorem dX_origin_51 : decode cX_origin 51 = .ok (.goto 10, 3) := by decide +kernel
theorem dX_origin_54 : decode cX_origin 54 = .ok (.aload_n 0, 1) := by decide +kernel
theorem dX_origin_55 : decode cX_origin 55 = .ok (.getfield 53, 3) := by decide +kernel
theorem dX_origin_58 : decode cX_origin 58 = .ok (.getfield 139, 3) := by decide +kernel
theorem dX_origin_61 : decode cX_origin 61 = .ok (.lreturn, 1) := by decide +kernel
theorem dX_defect_0 : decode cX_defect 0 = .ok (.aload_n 0, 1) := by decide +kernel
theorem dX_defect_1 : decode cX_defect 1 = .ok (.iload_n 1, 1) := by decide +kernel
theorem dX_defect_2 : decode cX_defect 2 = .ok (.invokevirtual 80, 3) := by decide +kernel
theorem dX_defect_5 : decode cX_defect 5 = .ok (.iload_n 2, 1) := by decide +kernel
theorem dX_defect_6 : decode cX_defect 6 = .ok (.iconst 0, 1) := by decide +kernel
theorem dX_defect_7 : decode cX_defect 7 = .ok (.aload_n 0, 1) := by decide +kernel
theorem dX_defect_8 : decode cX_defect 8 = .ok (.getfield 16, 3) := by decide +kernel
theorem dX_defect_11 : decode cX_defect 11 = .ok (.iload_n 1, 1) := by decide +kernel
theorem dX_defect_12 : decode cX_defect 12 = .ok (.iaload, 1) := by decide +kernel
theorem dX_defect_13 : decode cX_defect 13 = .ok (.iconst 1, 1) := by decide +kernel
theorem dX_defect_14 : decode cX_defect 14 = .ok (.isub, 1) := by decide +kernel
theorem dX_defect_15 : decode cX_defect 15 = .ok (.invokestatic 64, 3) := by decide +kernel
theorem dX_defect_18 : decode cX_defect 18 = .ok (.aload_n 0, 1) := by decide +kernel
theorem dX_defect_19 : decode cX_defect 19 = .ok (.getfield 142, 3) := by decide +kernel
theorem dX_defect_22 : decode cX_defect 22 = .ok (.bipush 10, 2) := by decide +kernel
theorem dX_defect_24 : decode cX_defect 24 = .ok (.if_icmp .lt 13, 3) := by decide +kernel
theorem dX_defect_27 : decode cX_defect 27 = .ok (.new 95, 3) := by decide +kernel
theorem dX_defect_30 : decode cX_defect 30 = .ok (.dup, 1) := by decide +kernel
theorem dX_defect_31 : decode cX_defect 31 = .ok (.ldc 145, 2) := by decide +kernel
theorem dX_defect_33 : decode cX_defect 33 = .ok (.invokespecial 99, 3) := by decide +kernel
theorem dX_defect_36 : decode cX_defect 36 = .ok (.athrow, 1) := by decide +kernel
theorem dX_defect_37 : decode cX_defect 37 = .ok (.aload_n 0, 1) := by decide +kernel
theorem dX_defect_38 : decode cX_defect 38 = .ok (.getfield 142, 3) := by decide +kernel
theorem dX_defect_41 : decode cX_defect 41 = .ok (.istore_n 3, 1) := by decide +kernel
theorem dX_defect_42 : decode cX_defect 42 = .ok (.aload_n 0, 1) := by decide +kernel
theorem dX_defect_43 : decode cX_defect 43 = .ok (.getfield 40, 3) := by decide +kernel
theorem dX_defect_46 : decode cX_defect 46 = .ok (.iload_n 3, 1) := by decide +kernel
theorem dX_defect_47 : decode cX_defect 47 = .ok (.aload_n 0, 1) := by decide +kernel
theorem dX_defect_48 : decode cX_defect 48 = .ok (.iload_n 1, 1) := by decide +kernel
theorem dX_defect_49 : decode cX_defect 49 = .ok (.iload_n 2, 1) := by decide +kernel
theorem dX_defect_50 : decode cX_defect 50 = .ok (.invokevirtual 133, 3) := by decide +kernel
theorem dX_defect_53 : decode cX_defect 53 = .ok (.iastore, 1) := by decide +kernel
theorem dX_defect_54 : decode cX_defect 54 = .ok (.aload_n 0, 1) := by decide +kernel
theorem dX_defect_55 : decode cX_defect 55 = .ok (.getfield 43, 3) := by decide +kernel
theorem dX_defect_58 : decode cX_defect 58 = .ok (.iload_n 3, 1) := by decide +kernel
theorem dX_defect_59 : decode cX_defect 59 = .ok (.aload_n 0, 1) := by decide +kernel
theorem dX_defect_60 : decode cX_defect 60 = .ok (.getfield 53, 3) := by decide +kernel
theorem dX_defect_63 : decode cX_defect 63 = .ok (.getfield 136, 3) := by decide +kernel
theorem dX_defect_66 : decode cX_defect 66 = .ok (.lastore, 1) := by decide +kernel
theorem dX_defect_67 : decode cX_defect 67 = .ok (.aload_n 0, 1) := by decide +kernel
theorem dX_defect_68 : decode cX_defect 68 = .ok (.getfield 47, 3) := by decide +kernel
theorem dX_defect_71 : decode cX_defect 71 = .ok (.iload_n 3, 1) := by decide +kernel
theorem dX_defect_72 : decode cX_defect 72 = .ok (.aload_n 0, 1) := by decide +kernel
theorem dX_defect_73 : decode cX_defect 73 = .ok (.getfield 53, 3) := by decide +kernel
theorem dX_defect_76 : decode cX_defect 76 = .ok (.getfield 139, 3) := by decide +kernel
theorem dX_defect_79 : decode cX_defect 79 = .ok (.lastore, 1) := by decide +kernel
theorem dX_defect_80 : decode cX_defect 80 = .ok (.aload_n 0, 1) := by decide +kernel
theorem dX_defect_81 : decode cX_defect 81 = .ok (.dup, 1) := by decide +kernel
theorem dX_defect_82 : decode cX_defect 82 = .ok (.getfield 142, 3) := by decide +kernel
theorem dX_defect_85 : decode cX_defect 85 = .ok (.iconst 1, 1) := by decide +kernel
theorem dX_defect_86 : decode cX_defect 86 = .ok (.iadd, 1) := by decide +kernel
theorem dX_defect_87 : decode cX_defect 87 = .ok (.putfield 142, 3) := by decide +kernel
theorem dX_defect_90 : decode cX_defect 90 = .ok (.iload_n 3, 1) := by decide +kernel
theorem dX_defect_91 : decode cX_defect 91 = .ok (.ireturn, 1) := by decide +kernel
theorem dX_has_0 : decode cX_has 0 = .ok (.aload_n 0, 1) := by decide +kernel
theorem dX_has_1 : decode cX_has 1 = .ok (.iload_n 1, 1) := by decide +kernel
theorem dX_has_2 : decode cX_has 2 = .ok (.invokevirtual 147, 3) := by decide +kernel
theorem dX_has_5 : decode cX_has 5 = .ok (.aload_n 0, 1) := by decide +kernel
theorem dX_has_6 : decode cX_has 6 = .ok (.iload_n 2, 1) := by decide +kernel
theorem dX_has_7 : decode cX_has 7 = .ok (.invokevirtual 80, 3) := by decide +kernel
theorem dX_has_10 : decode cX_has 10 = .ok (.iload_n 3, 1) := by decide +kernel
theorem dX_has_11 : decode cX_has 11 = .ok (.iconst 1, 1) := by decide +kernel
theorem dX_has_12 : decode cX_has 12 = .ok (.invokestatic 129, 3) := by decide +kernel
theorem dX_has_15 : decode cX_has 15 = .ok (.aload_n 0, 1) := by decide +kernel
theorem dX_has_16 : decode cX_has 16 = .ok (.iload_n 1, 1) := by decide +kernel
theorem dX_has_17 : decode cX_has 17 = .ok (.invokevirtual 150, 3) := by decide +kernel
theorem dX_has_20 : decode cX_has 20 = .ok (.aload_n 0, 1) := by decide +kernel
theorem dX_has_21 : decode cX_has 21 = .ok (.getfield 60, 3) := by decide +kernel
theorem dX_has_24 : decode cX_has 24 = .ok (.iload_n 2, 1) := by decide +kernel
theorem dX_has_25 : decode cX_has 25 = .ok (.laload, 1) := by decide +kernel
theorem dX_has_26 : decode cX_has 26 = .ok (.lconst 0, 1) := by decide +kernel
theorem dX_has_27 : decode cX_has 27 = .ok (.lcmp, 1) := by decide +kernel
theorem dX_has_28 : decode cX_has 28 = .ok (.ifCond .ne 7, 3) := by decide +kernel
theorem dX_has_31 : decode cX_has 31 = .ok (.ldc2_w 153, 3) := by decide +kernel
theorem dX_has_34 : decode cX_has 34 = .ok (.lreturn, 1) := by decide +kernel
theorem dX_has_35 : decode cX_has 35 = .ok (.iload_n 3, 1) := by decide +kernel
theorem dX_has_36 : decode cX_has 36 = .ok (.ifCond .ne 12, 3) := by decide +kernel
theorem dX_has_39 : decode cX_has 39 = .ok (.aload_n 0, 1) := by decide +kernel
theorem dX_has_40 : decode cX_has 40 = .ok (.getfield 57, 3) := by decide +kernel
theorem dX_has_43 : decode cX_has 43 = .ok (.iload_n 2, 1) := by decide +kernel
theorem dX_has_44 : decode cX_has 44 = .ok (.laload, 1) := by decide +kernel
theorem dX_has_45 : decode cX_has 45 = .ok (.goto 9, 3) := by decide +kernel
theorem dX_has_48 : decode cX_has 48 = .ok (.aload_n 0, 1) := by decide +kernel
theorem dX_has_49 : decode cX_has 49 = .ok (.getfield 60, 3) := by decide +kernel
theorem dX_has_52 : decode cX_has 52 = .ok (.iload_n 2, 1) := by decide +kernel
theorem dX_has_53 : decode cX_has 53 = .ok (.laload, 1) := by decide +kernel
theorem dX_has_54 : decode cX_has 54 = .ok (.lreturn, 1) := by decide +kernel
theorem dX_recall_0 : decode cX_recall 0 = .ok (.aload_n 0, 1) := by decide +kernel
theorem dX_recall_1 : decode cX_recall 1 = .ok (.iload_n 1, 1) := by decide +kernel
theorem dX_recall_2 : decode cX_recall 2 = .ok (.invokevirtual 147, 3) := by decide +kernel
theorem dX_recall_5 : decode cX_recall 5 = .ok (.iload_n 2, 1) := by decide +kernel
theorem dX_recall_6 : decode cX_recall 6 = .ok (.ifCond .ge 13, 3) := by decide +kernel
theorem dX_recall_9 : decode cX_recall 9 = .ok (.new 86, 3) := by decide +kernel
theorem dX_recall_12 : decode cX_recall 12 = .ok (.dup, 1) := by decide +kernel
theorem dX_recall_13 : decode cX_recall 13 = .ok (.ldc 155, 2) := by decide +kernel
theorem dX_recall_15 : decode cX_recall 15 = .ok (.invokespecial 90, 3) := by decide +kernel
theorem dX_recall_18 : decode cX_recall 18 = .ok (.athrow, 1) := by decide +kernel
theorem dX_recall_19 : decode cX_recall 19 = .ok (.aload_n 0, 1) := by decide +kernel
theorem dX_recall_20 : decode cX_recall 20 = .ok (.iload_n 1, 1) := by decide +kernel
theorem dX_recall_21 : decode cX_recall 21 = .ok (.invokevirtual 150, 3) := by decide +kernel
theorem dX_recall_24 : decode cX_recall 24 = .ok (.iconst 0, 1) := by decide +kernel
theorem dX_recall_25 : decode cX_recall 25 = .ok (.istore_n 3, 1) := by decide +kernel
theorem dX_recall_26 : decode cX_recall 26 = .ok (.iconst 0, 1) := by decide +kernel
theorem dX_recall_27 : decode cX_recall 27 = .ok (.istore 4, 2) := by decide +kernel
theorem dX_recall_29 : decode cX_recall 29 = .ok (.iload 4, 2) := by decide +kernel
theorem dX_recall_31 : decode cX_recall 31 = .ok (.aload_n 0, 1) := by decide +kernel
theorem dX_recall_32 : decode cX_recall 32 = .ok (.getfield 157, 3) := by decide +kernel
theorem dX_recall_35 : decode cX_recall 35 = .ok (.if_icmp .ge 41, 3) := by decide +kernel
theorem dX_recall_38 : decode cX_recall 38 = .ok (.aload_n 0, 1) := by decide +kernel
theorem dX_recall_39 : decode cX_recall 39 = .ok (.iload 4, 2) := by decide +kernel
theorem dX_recall_41 : decode cX_recall 41 = .ok (.invokevirtual 123, 3) := by decide +kernel
theorem dX_recall_44 : decode cX_recall 44 = .ok (.ifCond .eq 26, 3) := by decide +kernel
theorem dX_recall_47 : decode cX_recall 47 = .ok (.aload_n 0, 1) := by decide +kernel
theorem dX_recall_48 : decode cX_recall 48 = .ok (.getfield 60, 3) := by decide +kernel
theorem dX_recall_51 : decode cX_recall 51 = .ok (.iload 4, 2) := by decide +kernel
theorem dX_recall_53 : decode cX_recall 53 = .ok (.laload, 1) := by decide +kernel
theorem dX_recall_54 : decode cX_recall 54 = .ok (.lconst 0, 1) := by decide +kernel
theorem dX_recall_55 : decode cX_recall 55 = .ok (.lcmp, 1) := by decide +kernel
theorem dX_recall_56 : decode cX_recall 56 = .ok (.ifCond .eq 14, 3) := by decide +kernel
theorem dX_recall_59 : decode cX_recall 59 = .ok (.iload_n 3, 1) := by decide +kernel
theorem dX_recall_60 : decode cX_recall 60 = .ok (.iload_n 2, 1) := by decide +kernel
theorem dX_recall_61 : decode cX_recall 61 = .ok (.if_icmp .ne 6, 3) := by decide +kernel
theorem dX_recall_64 : decode cX_recall 64 = .ok (.iload 4, 2) := by decide +kernel
theorem dX_recall_66 : decode cX_recall 66 = .ok (.ireturn, 1) := by decide +kernel
theorem dX_recall_67 : decode cX_recall 67 = .ok (.iinc 3 1, 3) := by decide +kernel
theorem dX_recall_70 : decode cX_recall 70 = .ok (.iinc 4 1, 3) := by decide +kernel
theorem dX_recall_73 : decode cX_recall 73 = .ok (.goto (-44), 3) := by decide +kernel
theorem dX_recall_76 : decode cX_recall 76 = .ok (.iconst (-1), 1) := by decide +kernel
theorem dX_recall_77 : decode cX_recall 77 = .ok (.ireturn, 1) := by decide +kernel
theorem dX_told_0 : decode cX_told 0 = .ok (.iload_n 1, 1) := by decide +kernel
theorem dX_told_1 : decode cX_told 1 = .ok (.tableswitch 43 0 2 #[27, 32, 38], 27) := by decide +kernel
theorem dX_told_28 : decode cX_told 28 = .ok (.aload_n 0, 1) := by decide +kernel
theorem dX_told_29 : decode cX_told 29 = .ok (.invokevirtual 160, 3) := by decide +kernel
theorem dX_told_32 : decode cX_told 32 = .ok (.lreturn, 1) := by decide +kernel
theorem dX_told_33 : decode cX_told 33 = .ok (.aload_n 0, 1) := by decide +kernel
theorem dX_told_34 : decode cX_told 34 = .ok (.getfield 115, 3) := by decide +kernel
theorem dX_told_37 : decode cX_told 37 = .ok (.i2l, 1) := by decide +kernel
theorem dX_told_38 : decode cX_told 38 = .ok (.lreturn, 1) := by decide +kernel
theorem dX_told_39 : decode cX_told 39 = .ok (.aload_n 0, 1) := by decide +kernel
theorem dX_told_40 : decode cX_told 40 = .ok (.getfield 72, 3) := by decide +kernel
theorem dX_told_43 : decode cX_told 43 = .ok (.lreturn, 1) := by decide +kernel
theorem dX_told_44 : decode cX_told 44 = .ok (.new 86, 3) := by decide +kernel
theorem dX_told_47 : decode cX_told 47 = .ok (.dup, 1) := by decide +kernel
theorem dX_told_48 : decode cX_told 48 = .ok (.ldc 127, 2) := by decide +kernel
theorem dX_told_50 : decode cX_told 50 = .ok (.invokespecial 90, 3) := by decide +kernel
theorem dX_told_53 : decode cX_told 53 = .ok (.athrow, 1) := by decide +kernel
theorem dX_isPiece_0 : decode cX_isPiece 0 = .ok (.iload_n 1, 1) := by decide +kernel
theorem dX_isPiece_1 : decode cX_isPiece 1 = .ok (.ifCond .lt 15, 3) := by decide +kernel
theorem dX_isPiece_4 : decode cX_isPiece 4 = .ok (.iload_n 1, 1) := by decide +kernel
theorem dX_isPiece_5 : decode cX_isPiece 5 = .ok (.aload_n 0, 1) := by decide +kernel
theorem dX_isPiece_6 : decode cX_isPiece 6 = .ok (.getfield 157, 3) := by decide +kernel
theorem dX_isPiece_9 : decode cX_isPiece 9 = .ok (.if_icmp .ge 7, 3) := by decide +kernel
theorem dX_isPiece_12 : decode cX_isPiece 12 = .ok (.iconst 1, 1) := by decide +kernel
theorem dX_isPiece_13 : decode cX_isPiece 13 = .ok (.goto 4, 3) := by decide +kernel
theorem dX_isPiece_16 : decode cX_isPiece 16 = .ok (.iconst 0, 1) := by decide +kernel
theorem dX_isPiece_17 : decode cX_isPiece 17 = .ok (.ireturn, 1) := by decide +kernel
theorem dX_isLive_0 : decode cX_isLive 0 = .ok (.aload_n 0, 1) := by decide +kernel
theorem dX_isLive_1 : decode cX_isLive 1 = .ok (.getfield 19, 3) := by decide +kernel
theorem dX_isLive_4 : decode cX_isLive 4 = .ok (.iload_n 1, 1) := by decide +kernel
theorem dX_isLive_5 : decode cX_isLive 5 = .ok (.iaload, 1) := by decide +kernel
theorem dX_isLive_6 : decode cX_isLive 6 = .ok (.ifCond .eq 13, 3) := by decide +kernel
theorem dX_isLive_9 : decode cX_isLive 9 = .ok (.aload_n 0, 1) := by decide +kernel
theorem dX_isLive_10 : decode cX_isLive 10 = .ok (.getfield 19, 3) := by decide +kernel
theorem dX_isLive_13 : decode cX_isLive 13 = .ok (.iload_n 1, 1) := by decide +kernel
theorem dX_isLive_14 : decode cX_isLive 14 = .ok (.iaload, 1) := by decide +kernel
theorem dX_isLive_15 : decode cX_isLive 15 = .ok (.iconst 3, 1) := by decide +kernel
theorem dX_isLive_16 : decode cX_isLive 16 = .ok (.if_icmp .ne 7, 3) := by decide +kernel
theorem dX_isLive_19 : decode cX_isLive 19 = .ok (.iconst 1, 1) := by decide +kernel
theorem dX_isLive_20 : decode cX_isLive 20 = .ok (.goto 4, 3) := by decide +kernel
theorem dX_isLive_23 : decode cX_isLive 23 = .ok (.iconst 0, 1) := by decide +kernel
theorem dX_isLive_24 : decode cX_isLive 24 = .ok (.ireturn, 1) := by decide +kernel
theorem dX_needPiece_0 : decode cX_needPiece 0 = .ok (.aload_n 0, 1) := by decide +kernel
theorem dX_needPiece_1 : decode cX_needPiece 1 = .ok (.iload_n 1, 1) := by decide +kernel
theorem dX_needPiece_2 : decode cX_needPiece 2 = .ok (.invokevirtual 164, 3) := by decide +kernel
theorem dX_needPiece_5 : decode cX_needPiece 5 = .ok (.ifCond .ne 13, 3) := by decide +kernel
theorem dX_needPiece_8 : decode cX_needPiece 8 = .ok (.new 86, 3) := by decide +kernel
theorem dX_needPiece_11 : decode cX_needPiece 11 = .ok (.dup, 1) := by decide +kernel
theorem dX_needPiece_12 : decode cX_needPiece 12 = .ok (.ldc 167, 2) := by decide +kernel
theorem dX_needPiece_14 : decode cX_needPiece 14 = .ok (.invokespecial 90, 3) := by decide +kernel
theorem dX_needPiece_17 : decode cX_needPiece 17 = .ok (.athrow, 1) := by decide +kernel
theorem dX_needPiece_18 : decode cX_needPiece 18 = .ok (.return_, 1) := by decide +kernel
theorem dX_needDefect_0 : decode cX_needDefect 0 = .ok (.iload_n 1, 1) := by decide +kernel
theorem dX_needDefect_1 : decode cX_needDefect 1 = .ok (.ifCond .lt 11, 3) := by decide +kernel
theorem dX_needDefect_4 : decode cX_needDefect 4 = .ok (.iload_n 1, 1) := by decide +kernel
theorem dX_needDefect_5 : decode cX_needDefect 5 = .ok (.aload_n 0, 1) := by decide +kernel
theorem dX_needDefect_6 : decode cX_needDefect 6 = .ok (.getfield 142, 3) := by decide +kernel
theorem dX_needDefect_9 : decode cX_needDefect 9 = .ok (.if_icmp .lt 13, 3) := by decide +kernel
theorem dX_needDefect_12 : decode cX_needDefect 12 = .ok (.new 86, 3) := by decide +kernel
theorem dX_needDefect_15 : decode cX_needDefect 15 = .ok (.dup, 1) := by decide +kernel
theorem dX_needDefect_16 : decode cX_needDefect 16 = .ok (.ldc 169, 2) := by decide +kernel
theorem dX_needDefect_18 : decode cX_needDefect 18 = .ok (.invokespecial 90, 3) := by decide +kernel
theorem dX_needDefect_21 : decode cX_needDefect 21 = .ok (.athrow, 1) := by decide +kernel
theorem dX_needDefect_22 : decode cX_needDefect 22 = .ok (.return_, 1) := by decide +kernel
theorem dX_needPart_0 : decode cX_needPart 0 = .ok (.iload_n 0, 1) := by decide +kernel
theorem dX_needPart_1 : decode cX_needPart 1 = .ok (.ifCond .lt 8, 3) := by decide +kernel
theorem dX_needPart_4 : decode cX_needPart 4 = .ok (.iload_n 0, 1) := by decide +kernel
theorem dX_needPart_5 : decode cX_needPart 5 = .ok (.iload_n 1, 1) := by decide +kernel
theorem dX_needPart_6 : decode cX_needPart 6 = .ok (.if_icmp .le 13, 3) := by decide +kernel
theorem dX_needPart_9 : decode cX_needPart 9 = .ok (.new 86, 3) := by decide +kernel
theorem dX_needPart_12 : decode cX_needPart 12 = .ok (.dup, 1) := by decide +kernel
theorem dX_needPart_13 : decode cX_needPart 13 = .ok (.ldc 171, 2) := by decide +kernel
theorem dX_needPart_15 : decode cX_needPart 15 = .ok (.invokespecial 90, 3) := by decide +kernel
theorem dX_needPart_18 : decode cX_needPart 18 = .ok (.athrow, 1) := by decide +kernel
theorem dX_needPart_19 : decode cX_needPart 19 = .ok (.return_, 1) := by decide +kernel
theorem dX_needFree_0 : decode cX_needFree 0 = .ok (.aload_n 0, 1) := by decide +kernel
theorem dX_needFree_1 : decode cX_needFree 1 = .ok (.getfield 19, 3) := by decide +kernel
theorem dX_needFree_4 : decode cX_needFree 4 = .ok (.iload_n 1, 1) := by decide +kernel
theorem dX_needFree_5 : decode cX_needFree 5 = .ok (.iaload, 1) := by decide +kernel
theorem dX_needFree_6 : decode cX_needFree 6 = .ok (.ifCond .eq 13, 3) := by decide +kernel
theorem dX_needFree_9 : decode cX_needFree 9 = .ok (.new 110, 3) := by decide +kernel
theorem dX_needFree_12 : decode cX_needFree 12 = .ok (.dup, 1) := by decide +kernel
theorem dX_needFree_13 : decode cX_needFree 13 = .ok (.ldc 173, 2) := by decide +kernel
theorem dX_needFree_15 : decode cX_needFree 15 = .ok (.invokespecial 114, 3) := by decide +kernel
theorem dX_needFree_18 : decode cX_needFree 18 = .ok (.athrow, 1) := by decide +kernel
theorem dX_needFree_19 : decode cX_needFree 19 = .ok (.return_, 1) := by decide +kernel
theorem dX_needWithin_0 : decode cX_needWithin 0 = .ok (.iload_n 0, 1) := by decide +kernel
theorem dX_needWithin_1 : decode cX_needWithin 1 = .ok (.iload_n 1, 1) := by decide +kernel
theorem dX_needWithin_2 : decode cX_needWithin 2 = .ok (.if_icmp .lt 8, 3) := by decide +kernel
theorem dX_needWithin_5 : decode cX_needWithin 5 = .ok (.iload_n 0, 1) := by decide +kernel
theorem dX_needWithin_6 : decode cX_needWithin 6 = .ok (.iload_n 2, 1) := by decide +kernel
theorem dX_needWithin_7 : decode cX_needWithin 7 = .ok (.if_icmp .le 13, 3) := by decide +kernel
theorem dX_needWithin_10 : decode cX_needWithin 10 = .ok (.new 175, 3) := by decide +kernel
theorem dX_needWithin_13 : decode cX_needWithin 13 = .ok (.dup, 1) := by decide +kernel
theorem dX_needWithin_14 : decode cX_needWithin 14 = .ok (.ldc 177, 2) := by decide +kernel
theorem dX_needWithin_16 : decode cX_needWithin 16 = .ok (.invokespecial 179, 3) := by decide +kernel
theorem dX_needWithin_19 : decode cX_needWithin 19 = .ok (.athrow, 1) := by decide +kernel
theorem dX_needWithin_20 : decode cX_needWithin 20 = .ok (.return_, 1) := by decide +kernel
theorem dX_needRoom_0 : decode cX_needRoom 0 = .ok (.aload_n 0, 1) := by decide +kernel
theorem dX_needRoom_1 : decode cX_needRoom 1 = .ok (.getfield 157, 3) := by decide +kernel
theorem dX_needRoom_4 : decode cX_needRoom 4 = .ok (.iload_n 1, 1) := by decide +kernel
theorem dX_needRoom_5 : decode cX_needRoom 5 = .ok (.iadd, 1) := by decide +kernel
theorem dX_needRoom_6 : decode cX_needRoom 6 = .ok (.bipush 40, 2) := by decide +kernel
theorem dX_needRoom_8 : decode cX_needRoom 8 = .ok (.if_icmp .le 13, 3) := by decide +kernel
theorem dX_needRoom_11 : decode cX_needRoom 11 = .ok (.new 95, 3) := by decide +kernel
theorem dX_needRoom_14 : decode cX_needRoom 14 = .ok (.dup, 1) := by decide +kernel
theorem dX_needRoom_15 : decode cX_needRoom 15 = .ok (.ldc 180, 2) := by decide +kernel
theorem dX_needRoom_17 : decode cX_needRoom 17 = .ok (.invokespecial 99, 3) := by decide +kernel
theorem dX_needRoom_20 : decode cX_needRoom 20 = .ok (.athrow, 1) := by decide +kernel
theorem dX_needRoom_21 : decode cX_needRoom 21 = .ok (.return_, 1) := by decide +kernel
theorem dX_addPiece_0 : decode cX_addPiece 0 = .ok (.aload_n 0, 1) := by decide +kernel
theorem dX_addPiece_1 : decode cX_addPiece 1 = .ok (.getfield 157, 3) := by decide +kernel
theorem dX_addPiece_4 : decode cX_addPiece 4 = .ok (.istore 5, 2) := by decide +kernel
theorem dX_addPiece_6 : decode cX_addPiece 6 = .ok (.aload_n 0, 1) := by decide +kernel
theorem dX_addPiece_7 : decode cX_addPiece 7 = .ok (.getfield 9, 3) := by decide +kernel
theorem dX_addPiece_10 : decode cX_addPiece 10 = .ok (.iload 5, 2) := by decide +kernel
theorem dX_addPiece_12 : decode cX_addPiece 12 = .ok (.iload_n 1, 1) := by decide +kernel
theorem dX_addPiece_13 : decode cX_addPiece 13 = .ok (.iastore, 1) := by decide +kernel
theorem dX_addPiece_14 : decode cX_addPiece 14 = .ok (.aload_n 0, 1) := by decide +kernel
theorem dX_addPiece_15 : decode cX_addPiece 15 = .ok (.getfield 13, 3) := by decide +kernel
theorem dX_addPiece_18 : decode cX_addPiece 18 = .ok (.iload 5, 2) := by decide +kernel
theorem dX_addPiece_20 : decode cX_addPiece 20 = .ok (.iload_n 3, 1) := by decide +kernel
theorem dX_addPiece_21 : decode cX_addPiece 21 = .ok (.iastore, 1) := by decide +kernel
theorem dX_addPiece_22 : decode cX_addPiece 22 = .ok (.aload_n 0, 1) := by decide +kernel
theorem dX_addPiece_23 : decode cX_addPiece 23 = .ok (.getfield 16, 3) := by decide +kernel
theorem dX_addPiece_26 : decode cX_addPiece 26 = .ok (.iload 5, 2) := by decide +kernel
theorem dX_addPiece_28 : decode cX_addPiece 28 = .ok (.iload 4, 2) := by decide +kernel
theorem dX_addPiece_30 : decode cX_addPiece 30 = .ok (.iastore, 1) := by decide +kernel
theorem dX_addPiece_31 : decode cX_addPiece 31 = .ok (.aload_n 0, 1) := by decide +kernel
theorem dX_addPiece_32 : decode cX_addPiece 32 = .ok (.getfield 19, 3) := by decide +kernel
theorem dX_addPiece_35 : decode cX_addPiece 35 = .ok (.iload 5, 2) := by decide +kernel
theorem dX_addPiece_37 : decode cX_addPiece 37 = .ok (.iconst 0, 1) := by decide +kernel
theorem dX_addPiece_38 : decode cX_addPiece 38 = .ok (.iastore, 1) := by decide +kernel
theorem dX_addPiece_39 : decode cX_addPiece 39 = .ok (.aload_n 0, 1) := by decide +kernel
theorem dX_addPiece_40 : decode cX_addPiece 40 = .ok (.getfield 22, 3) := by decide +kernel
theorem dX_addPiece_43 : decode cX_addPiece 43 = .ok (.iload 5, 2) := by decide +kernel
theorem dX_addPiece_45 : decode cX_addPiece 45 = .ok (.iload_n 2, 1) := by decide +kernel
theorem dX_addPiece_46 : decode cX_addPiece 46 = .ok (.iastore, 1) := by decide +kernel
theorem dX_addPiece_47 : decode cX_addPiece 47 = .ok (.aload_n 0, 1) := by decide +kernel
theorem dX_addPiece_48 : decode cX_addPiece 48 = .ok (.getfield 25, 3) := by decide +kernel
theorem dX_addPiece_51 : decode cX_addPiece 51 = .ok (.iload 5, 2) := by decide +kernel
theorem dX_addPiece_53 : decode cX_addPiece 53 = .ok (.iconst (-1), 1) := by decide +kernel
theorem dX_addPiece_54 : decode cX_addPiece 54 = .ok (.iastore, 1) := by decide +kernel
theorem dX_addPiece_55 : decode cX_addPiece 55 = .ok (.aload_n 0, 1) := by decide +kernel
theorem dX_addPiece_56 : decode cX_addPiece 56 = .ok (.getfield 28, 3) := by decide +kernel
theorem dX_addPiece_59 : decode cX_addPiece 59 = .ok (.iload 5, 2) := by decide +kernel
theorem dX_addPiece_61 : decode cX_addPiece 61 = .ok (.iload_n 2, 1) := by decide +kernel
theorem dX_addPiece_62 : decode cX_addPiece 62 = .ok (.iconst (-1), 1) := by decide +kernel
theorem dX_addPiece_63 : decode cX_addPiece 63 = .ok (.if_icmp .ne 7, 3) := by decide +kernel
theorem dX_addPiece_66 : decode cX_addPiece 66 = .ok (.iconst 0, 1) := by decide +kernel
theorem dX_addPiece_67 : decode cX_addPiece 67 = .ok (.goto 9, 3) := by decide +kernel
theorem dX_addPiece_70 : decode cX_addPiece 70 = .ok (.aload_n 0, 1) := by decide +kernel
theorem dX_addPiece_71 : decode cX_addPiece 71 = .ok (.getfield 28, 3) := by decide +kernel
theorem dX_addPiece_74 : decode cX_addPiece 74 = .ok (.iload_n 2, 1) := by decide +kernel
theorem dX_addPiece_75 : decode cX_addPiece 75 = .ok (.iaload, 1) := by decide +kernel
theorem dX_addPiece_76 : decode cX_addPiece 76 = .ok (.iastore, 1) := by decide +kernel
theorem dX_addPiece_77 : decode cX_addPiece 77 = .ok (.aload_n 0, 1) := by decide +kernel
theorem dX_addPiece_78 : decode cX_addPiece 78 = .ok (.dup, 1) := by decide +kernel
theorem dX_addPiece_79 : decode cX_addPiece 79 = .ok (.getfield 157, 3) := by decide +kernel
theorem dX_addPiece_82 : decode cX_addPiece 82 = .ok (.iconst 1, 1) := by decide +kernel
theorem dX_addPiece_83 : decode cX_addPiece 83 = .ok (.iadd, 1) := by decide +kernel
theorem dX_addPiece_84 : decode cX_addPiece 84 = .ok (.putfield 157, 3) := by decide +kernel
theorem dX_addPiece_87 : decode cX_addPiece 87 = .ok (.iload 5, 2) := by decide +kernel
theorem dX_addPiece_89 : decode cX_addPiece 89 = .ok (.ireturn, 1) := by decide +kernel
theorem dX_liveWeight_0 : decode cX_liveWeight 0 = .ok (.lconst 0, 1) := by decide +kernel
theorem dX_liveWeight_1 : decode cX_liveWeight 1 = .ok (.lstore_n 1, 1) := by decide +kernel
theorem dX_liveWeight_2 : decode cX_liveWeight 2 = .ok (.iconst 0, 1) := by decide +kernel
theorem dX_liveWeight_3 : decode cX_liveWeight 3 = .ok (.istore_n 3, 1) := by decide +kernel
theorem dX_liveWeight_4 : decode cX_liveWeight 4 = .ok (.iload_n 3, 1) := by decide +kernel
theorem dX_liveWeight_5 : decode cX_liveWeight 5 = .ok (.aload_n 0, 1) := by decide +kernel
theorem dX_liveWeight_6 : decode cX_liveWeight 6 = .ok (.getfield 157, 3) := by decide +kernel
theorem dX_liveWeight_9 : decode cX_liveWeight 9 = .ok (.if_icmp .ge 27, 3) := by decide +kernel
theorem dX_liveWeight_12 : decode cX_liveWeight 12 = .ok (.aload_n 0, 1) := by decide +kernel
theorem dX_liveWeight_13 : decode cX_liveWeight 13 = .ok (.iload_n 3, 1) := by decide +kernel
theorem dX_liveWeight_14 : decode cX_liveWeight 14 = .ok (.invokevirtual 123, 3) := by decide +kernel
theorem dX_liveWeight_17 : decode cX_liveWeight 17 = .ok (.ifCond .eq 13, 3) := by decide +kernel
theorem dX_liveWeight_20 : decode cX_liveWeight 20 = .ok (.lload_n 1, 1) := by decide +kernel
theorem dX_liveWeight_21 : decode cX_liveWeight 21 = .ok (.aload_n 0, 1) := by decide +kernel
theorem dX_liveWeight_22 : decode cX_liveWeight 22 = .ok (.getfield 13, 3) := by decide +kernel
theorem dX_liveWeight_25 : decode cX_liveWeight 25 = .ok (.iload_n 3, 1) := by decide +kernel
theorem dX_liveWeight_26 : decode cX_liveWeight 26 = .ok (.iaload, 1) := by decide +kernel
theorem dX_liveWeight_27 : decode cX_liveWeight 27 = .ok (.i2l, 1) := by decide +kernel
theorem dX_liveWeight_28 : decode cX_liveWeight 28 = .ok (.ladd, 1) := by decide +kernel
theorem dX_liveWeight_29 : decode cX_liveWeight 29 = .ok (.lstore_n 1, 1) := by decide +kernel
theorem dX_liveWeight_30 : decode cX_liveWeight 30 = .ok (.iinc 3 1, 3) := by decide +kernel
theorem dX_liveWeight_33 : decode cX_liveWeight 33 = .ok (.goto (-29), 3) := by decide +kernel
theorem dX_liveWeight_36 : decode cX_liveWeight 36 = .ok (.lload_n 1, 1) := by decide +kernel
theorem dX_liveWeight_37 : decode cX_liveWeight 37 = .ok (.lreturn, 1) := by decide +kernel
theorem dX_walkBack_0 : decode cX_walkBack 0 = .ok (.aload_n 0, 1) := by decide +kernel
theorem dX_walkBack_1 : decode cX_walkBack 1 = .ok (.getfield 53, 3) := by decide +kernel
theorem dX_walkBack_4 : decode cX_walkBack 4 = .ok (.iload_n 2, 1) := by decide +kernel
theorem dX_walkBack_5 : decode cX_walkBack 5 = .ok (.i2l, 1) := by decide +kernel
theorem dX_walkBack_6 : decode cX_walkBack 6 = .ok (.lconst 1, 1) := by decide +kernel
theorem dX_walkBack_7 : decode cX_walkBack 7 = .ok (.invokevirtual 182, 3) := by decide +kernel
theorem dX_walkBack_10 : decode cX_walkBack 10 = .ok (.iload_n 1, 1) := by decide +kernel
theorem dX_walkBack_11 : decode cX_walkBack 11 = .ok (.istore_n 3, 1) := by decide +kernel
theorem dX_walkBack_12 : decode cX_walkBack 12 = .ok (.iconst 0, 1) := by decide +kernel
theorem dX_walkBack_13 : decode cX_walkBack 13 = .ok (.istore 4, 2) := by decide +kernel
theorem dX_walkBack_15 : decode cX_walkBack 15 = .ok (.iload 4, 2) := by decide +kernel
theorem dX_walkBack_17 : decode cX_walkBack 17 = .ok (.bipush 40, 2) := by decide +kernel
theorem dX_walkBack_19 : decode cX_walkBack 19 = .ok (.if_icmp .ge 30, 3) := by decide +kernel
theorem dX_walkBack_22 : decode cX_walkBack 22 = .ok (.aload_n 0, 1) := by decide +kernel
theorem dX_walkBack_23 : decode cX_walkBack 23 = .ok (.iload_n 3, 1) := by decide +kernel
theorem dX_walkBack_24 : decode cX_walkBack 24 = .ok (.invokevirtual 186, 3) := by decide +kernel
theorem dX_walkBack_27 : decode cX_walkBack 27 = .ok (.istore 5, 2) := by decide +kernel
theorem dX_walkBack_29 : decode cX_walkBack 29 = .ok (.aload_n 0, 1) := by decide +kernel
theorem dX_walkBack_30 : decode cX_walkBack 30 = .ok (.iload 5, 2) := by decide +kernel
theorem dX_walkBack_32 : decode cX_walkBack 32 = .ok (.invokevirtual 164, 3) := by decide +kernel
theorem dX_walkBack_35 : decode cX_walkBack 35 = .ok (.ifCond .ne 5, 3) := by decide +kernel
theorem dX_walkBack_38 : decode cX_walkBack 38 = .ok (.iload_n 3, 1) := by decide +kernel
theorem dX_walkBack_39 : decode cX_walkBack 39 = .ok (.ireturn, 1) := by decide +kernel
theorem dX_walkBack_40 : decode cX_walkBack 40 = .ok (.iload 5, 2) := by decide +kernel
theorem dX_walkBack_42 : decode cX_walkBack 42 = .ok (.istore_n 3, 1) := by decide +kernel
theorem dX_walkBack_43 : decode cX_walkBack 43 = .ok (.iinc 4 1, 3) := by decide +kernel
theorem dX_walkBack_46 : decode cX_walkBack 46 = .ok (.goto (-31), 3) := by decide +kernel
theorem dX_walkBack_49 : decode cX_walkBack 49 = .ok (.iload_n 3, 1) := by decide +kernel
theorem dX_walkBack_50 : decode cX_walkBack 50 = .ok (.ireturn, 1) := by decide +kernel
theorem dX_stepBack_0 : decode cX_stepBack 0 = .ok (.aload_n 0, 1) := by decide +kernel
theorem dX_stepBack_1 : decode cX_stepBack 1 = .ok (.getfield 9, 3) := by decide +kernel
theorem dX_stepBack_4 : decode cX_stepBack 4 = .ok (.iload_n 1, 1) := by decide +kernel
theorem dX_stepBack_5 : decode cX_stepBack 5 = .ok (.iaload, 1) := by decide +kernel
theorem dX_stepBack_6 : decode cX_stepBack 6 = .ok (.tableswitch 121 2 4 #[26, 47, 93], 26) := by decide +kernel
theorem dX_stepBack_32 : decode cX_stepBack 32 = .ok (.aload_n 0, 1) := by decide +kernel
theorem dX_stepBack_33 : decode cX_stepBack 33 = .ok (.getfield 53, 3) := by decide +kernel
theorem dX_stepBack_36 : decode cX_stepBack 36 = .ok (.aload_n 0, 1) := by decide +kernel
theorem dX_stepBack_37 : decode cX_stepBack 37 = .ok (.getfield 31, 3) := by decide +kernel
theorem dX_stepBack_40 : decode cX_stepBack 40 = .ok (.iload_n 1, 1) := by decide +kernel
theorem dX_stepBack_41 : decode cX_stepBack 41 = .ok (.iaload, 1) := by decide +kernel
theorem dX_stepBack_42 : decode cX_stepBack 42 = .ok (.i2l, 1) := by decide +kernel
theorem dX_stepBack_43 : decode cX_stepBack 43 = .ok (.invokevirtual 190, 3) := by decide +kernel
theorem dX_stepBack_46 : decode cX_stepBack 46 = .ok (.aload_n 0, 1) := by decide +kernel
theorem dX_stepBack_47 : decode cX_stepBack 47 = .ok (.getfield 22, 3) := by decide +kernel
theorem dX_stepBack_50 : decode cX_stepBack 50 = .ok (.iload_n 1, 1) := by decide +kernel
theorem dX_stepBack_51 : decode cX_stepBack 51 = .ok (.iaload, 1) := by decide +kernel
theorem dX_stepBack_52 : decode cX_stepBack 52 = .ok (.ireturn, 1) := by decide +kernel
theorem dX_stepBack_53 : decode cX_stepBack 53 = .ok (.aload_n 0, 1) := by decide +kernel
theorem dX_stepBack_54 : decode cX_stepBack 54 = .ok (.getfield 53, 3) := by decide +kernel
theorem dX_stepBack_57 : decode cX_stepBack 57 = .ok (.aload_n 0, 1) := by decide +kernel
theorem dX_stepBack_58 : decode cX_stepBack 58 = .ok (.getfield 31, 3) := by decide +kernel
theorem dX_stepBack_61 : decode cX_stepBack 61 = .ok (.iload_n 1, 1) := by decide +kernel
theorem dX_stepBack_62 : decode cX_stepBack 62 = .ok (.iaload, 1) := by decide +kernel
theorem dX_stepBack_63 : decode cX_stepBack 63 = .ok (.i2l, 1) := by decide +kernel
theorem dX_stepBack_64 : decode cX_stepBack 64 = .ok (.invokevirtual 194, 3) := by decide +kernel
theorem dX_stepBack_67 : decode cX_stepBack 67 = .ok (.ifCond .eq 10, 3) := by decide +kernel
theorem dX_stepBack_70 : decode cX_stepBack 70 = .ok (.aload_n 0, 1) := by decide +kernel
theorem dX_stepBack_71 : decode cX_stepBack 71 = .ok (.getfield 22, 3) := by decide +kernel
theorem dX_stepBack_74 : decode cX_stepBack 74 = .ok (.iload_n 1, 1) := by decide +kernel
theorem dX_stepBack_75 : decode cX_stepBack 75 = .ok (.iaload, 1) := by decide +kernel
theorem dX_stepBack_76 : decode cX_stepBack 76 = .ok (.ireturn, 1) := by decide +kernel
theorem dX_stepBack_77 : decode cX_stepBack 77 = .ok (.aload_n 0, 1) := by decide +kernel
theorem dX_stepBack_78 : decode cX_stepBack 78 = .ok (.getfield 53, 3) := by decide +kernel
theorem dX_stepBack_81 : decode cX_stepBack 81 = .ok (.aload_n 0, 1) := by decide +kernel
theorem dX_stepBack_82 : decode cX_stepBack 82 = .ok (.getfield 31, 3) := by decide +kernel
theorem dX_stepBack_85 : decode cX_stepBack 85 = .ok (.iload_n 1, 1) := by decide +kernel
theorem dX_stepBack_86 : decode cX_stepBack 86 = .ok (.iaload, 1) := by decide +kernel
theorem dX_stepBack_87 : decode cX_stepBack 87 = .ok (.ineg, 1) := by decide +kernel
theorem dX_stepBack_88 : decode cX_stepBack 88 = .ok (.i2l, 1) := by decide +kernel
theorem dX_stepBack_89 : decode cX_stepBack 89 = .ok (.invokevirtual 190, 3) := by decide +kernel
theorem dX_stepBack_92 : decode cX_stepBack 92 = .ok (.aload_n 0, 1) := by decide +kernel
theorem dX_stepBack_93 : decode cX_stepBack 93 = .ok (.getfield 25, 3) := by decide +kernel
theorem dX_stepBack_96 : decode cX_stepBack 96 = .ok (.iload_n 1, 1) := by decide +kernel
theorem dX_stepBack_97 : decode cX_stepBack 97 = .ok (.iaload, 1) := by decide +kernel
theorem dX_stepBack_98 : decode cX_stepBack 98 = .ok (.ireturn, 1) := by decide +kernel
theorem dX_stepBack_99 : decode cX_stepBack 99 = .ok (.aload_n 0, 1) := by decide +kernel
theorem dX_stepBack_100 : decode cX_stepBack 100 = .ok (.getfield 53, 3) := by decide +kernel
theorem dX_stepBack_103 : decode cX_stepBack 103 = .ok (.aload_n 0, 1) := by decide +kernel
theorem dX_stepBack_104 : decode cX_stepBack 104 = .ok (.getfield 37, 3) := by decide +kernel
theorem dX_stepBack_107 : decode cX_stepBack 107 = .ok (.iload_n 1, 1) := by decide +kernel
theorem dX_stepBack_108 : decode cX_stepBack 108 = .ok (.iaload, 1) := by decide +kernel
theorem dX_stepBack_109 : decode cX_stepBack 109 = .ok (.i2l, 1) := by decide +kernel
theorem dX_stepBack_110 : decode cX_stepBack 110 = .ok (.aload_n 0, 1) := by decide +kernel
theorem dX_stepBack_111 : decode cX_stepBack 111 = .ok (.getfield 34, 3) := by decide +kernel
theorem dX_stepBack_114 : decode cX_stepBack 114 = .ok (.iload_n 1, 1) := by decide +kernel
theorem dX_stepBack_115 : decode cX_stepBack 115 = .ok (.iaload, 1) := by decide +kernel
theorem dX_stepBack_116 : decode cX_stepBack 116 = .ok (.i2l, 1) := by decide +kernel
theorem dX_stepBack_117 : decode cX_stepBack 117 = .ok (.invokevirtual 198, 3) := by decide +kernel
theorem dX_stepBack_120 : decode cX_stepBack 120 = .ok (.aload_n 0, 1) := by decide +kernel
theorem dX_stepBack_121 : decode cX_stepBack 121 = .ok (.getfield 22, 3) := by decide +kernel
theorem dX_stepBack_124 : decode cX_stepBack 124 = .ok (.iload_n 1, 1) := by decide +kernel
theorem dX_stepBack_125 : decode cX_stepBack 125 = .ok (.iaload, 1) := by decide +kernel
theorem dX_stepBack_126 : decode cX_stepBack 126 = .ok (.ireturn, 1) := by decide +kernel
theorem dX_stepBack_127 : decode cX_stepBack 127 = .ok (.aload_n 0, 1) := by decide +kernel
theorem dX_stepBack_128 : decode cX_stepBack 128 = .ok (.getfield 22, 3) := by decide +kernel
theorem dX_stepBack_131 : decode cX_stepBack 131 = .ok (.iload_n 1, 1) := by decide +kernel
theorem dX_stepBack_132 : decode cX_stepBack 132 = .ok (.iaload, 1) := by decide +kernel
theorem dX_stepBack_133 : decode cX_stepBack 133 = .ok (.ireturn, 1) := by decide +kernel
theorem dX_follow_0 : decode cX_follow 0 = .ok (.iconst 0, 1) := by decide +kernel
theorem dX_follow_1 : decode cX_follow 1 = .ok (.istore_n 2, 1) := by decide +kernel
theorem dX_follow_2 : decode cX_follow 2 = .ok (.iload_n 2, 1) := by decide +kernel
theorem dX_follow_3 : decode cX_follow 3 = .ok (.aload_n 0, 1) := by decide +kernel
theorem dX_follow_4 : decode cX_follow 4 = .ok (.getfield 157, 3) := by decide +kernel
theorem dX_follow_7 : decode cX_follow 7 = .ok (.if_icmp .ge 58, 3) := by decide +kernel
theorem dX_follow_10 : decode cX_follow 10 = .ok (.aload_n 0, 1) := by decide +kernel
theorem dX_follow_11 : decode cX_follow 11 = .ok (.iload_n 1, 1) := by decide +kernel
theorem dX_follow_12 : decode cX_follow 12 = .ok (.iload_n 2, 1) := by decide +kernel
theorem dX_follow_13 : decode cX_follow 13 = .ok (.invokevirtual 201, 3) := by decide +kernel
theorem dX_follow_16 : decode cX_follow 16 = .ok (.istore_n 3, 1) := by decide +kernel
theorem dX_follow_17 : decode cX_follow 17 = .ok (.aload_n 0, 1) := by decide +kernel
theorem dX_follow_18 : decode cX_follow 18 = .ok (.getfield 57, 3) := by decide +kernel
theorem dX_follow_21 : decode cX_follow 21 = .ok (.iload_n 2, 1) := by decide +kernel
theorem dX_follow_22 : decode cX_follow 22 = .ok (.iload_n 3, 1) := by decide +kernel
theorem dX_follow_23 : decode cX_follow 23 = .ok (.ifCond .eq 13, 3) := by decide +kernel
theorem dX_follow_26 : decode cX_follow 26 = .ok (.aload_n 0, 1) := by decide +kernel
theorem dX_follow_27 : decode cX_follow 27 = .ok (.getfield 53, 3) := by decide +kernel
theorem dX_follow_30 : decode cX_follow 30 = .ok (.getfield 136, 3) := by decide +kernel
theorem dX_follow_33 : decode cX_follow 33 = .ok (.goto 4, 3) := by decide +kernel
theorem dX_follow_36 : decode cX_follow 36 = .ok (.lconst 0, 1) := by decide +kernel
theorem dX_follow_37 : decode cX_follow 37 = .ok (.lastore, 1) := by decide +kernel
theorem dX_follow_38 : decode cX_follow 38 = .ok (.aload_n 0, 1) := by decide +kernel
theorem dX_follow_39 : decode cX_follow 39 = .ok (.getfield 60, 3) := by decide +kernel
theorem dX_follow_42 : decode cX_follow 42 = .ok (.iload_n 2, 1) := by decide +kernel
theorem dX_follow_43 : decode cX_follow 43 = .ok (.iload_n 3, 1) := by decide +kernel
theorem dX_follow_44 : decode cX_follow 44 = .ok (.ifCond .eq 13, 3) := by decide +kernel
theorem dX_follow_47 : decode cX_follow 47 = .ok (.aload_n 0, 1) := by decide +kernel
theorem dX_follow_48 : decode cX_follow 48 = .ok (.getfield 53, 3) := by decide +kernel
theorem dX_follow_51 : decode cX_follow 51 = .ok (.getfield 139, 3) := by decide +kernel
theorem dX_follow_54 : decode cX_follow 54 = .ok (.goto 4, 3) := by decide +kernel
theorem dX_follow_57 : decode cX_follow 57 = .ok (.lconst 0, 1) := by decide +kernel
theorem dX_follow_58 : decode cX_follow 58 = .ok (.lastore, 1) := by decide +kernel
theorem dX_follow_59 : decode cX_follow 59 = .ok (.iinc 2 1, 3) := by decide +kernel
theorem dX_follow_62 : decode cX_follow 62 = .ok (.goto (-60), 3) := by decide +kernel
theorem dX_follow_65 : decode cX_follow 65 = .ok (.return_, 1) := by decide +kernel
theorem dX_stepForward_0 : decode cX_stepForward 0 = .ok (.aload_n 0, 1) := by decide +kernel
theorem dX_stepForward_1 : decode cX_stepForward 1 = .ok (.aload_n 0, 1) := by decide +kernel
theorem dX_stepForward_2 : decode cX_stepForward 2 = .ok (.getfield 22, 3) := by decide +kernel
theorem dX_stepForward_5 : decode cX_stepForward 5 = .ok (.iload_n 2, 1) := by decide +kernel
theorem dX_stepForward_6 : decode cX_stepForward 6 = .ok (.iaload, 1) := by decide +kernel
theorem dX_stepForward_7 : decode cX_stepForward 7 = .ok (.invokevirtual 205, 3) := by decide +kernel
theorem dX_stepForward_10 : decode cX_stepForward 10 = .ok (.istore_n 3, 1) := by decide +kernel
theorem dX_stepForward_11 : decode cX_stepForward 11 = .ok (.aload_n 0, 1) := by decide +kernel
theorem dX_stepForward_12 : decode cX_stepForward 12 = .ok (.getfield 9, 3) := by decide +kernel
theorem dX_stepForward_15 : decode cX_stepForward 15 = .ok (.iload_n 2, 1) := by decide +kernel
theorem dX_stepForward_16 : decode cX_stepForward 16 = .ok (.iaload, 1) := by decide +kernel
theorem dX_stepForward_17 : decode cX_stepForward 17 = .ok (.tableswitch 214 0 4 #[35, 70, 97, 137, 172], 35) := by decide +kernel
theorem dX_stepForward_52 : decode cX_stepForward 52 = .ok (.aload_n 0, 1) := by decide +kernel
theorem dX_stepForward_53 : decode cX_stepForward 53 = .ok (.getfield 53, 3) := by decide +kernel
theorem dX_stepForward_56 : decode cX_stepForward 56 = .ok (.aload_n 0, 1) := by decide +kernel
theorem dX_stepForward_57 : decode cX_stepForward 57 = .ok (.getfield 43, 3) := by decide +kernel
theorem dX_stepForward_60 : decode cX_stepForward 60 = .ok (.iload_n 1, 1) := by decide +kernel
theorem dX_stepForward_61 : decode cX_stepForward 61 = .ok (.laload, 1) := by decide +kernel
theorem dX_stepForward_62 : decode cX_stepForward 62 = .ok (.aload_n 0, 1) := by decide +kernel
theorem dX_stepForward_63 : decode cX_stepForward 63 = .ok (.getfield 47, 3) := by decide +kernel
theorem dX_stepForward_66 : decode cX_stepForward 66 = .ok (.iload_n 1, 1) := by decide +kernel
theorem dX_stepForward_67 : decode cX_stepForward 67 = .ok (.laload, 1) := by decide +kernel
theorem dX_stepForward_68 : decode cX_stepForward 68 = .ok (.invokevirtual 182, 3) := by decide +kernel
theorem dX_stepForward_71 : decode cX_stepForward 71 = .ok (.aload_n 0, 1) := by decide +kernel
theorem dX_stepForward_72 : decode cX_stepForward 72 = .ok (.getfield 40, 3) := by decide +kernel
theorem dX_stepForward_75 : decode cX_stepForward 75 = .ok (.iload_n 1, 1) := by decide +kernel
theorem dX_stepForward_76 : decode cX_stepForward 76 = .ok (.iaload, 1) := by decide +kernel
theorem dX_stepForward_77 : decode cX_stepForward 77 = .ok (.iload_n 2, 1) := by decide +kernel
theorem dX_stepForward_78 : decode cX_stepForward 78 = .ok (.if_icmp .ne 7, 3) := by decide +kernel
theorem dX_stepForward_81 : decode cX_stepForward 81 = .ok (.iconst 1, 1) := by decide +kernel
theorem dX_stepForward_82 : decode cX_stepForward 82 = .ok (.goto 4, 3) := by decide +kernel
theorem dX_stepForward_85 : decode cX_stepForward 85 = .ok (.iconst 0, 1) := by decide +kernel
theorem dX_stepForward_86 : decode cX_stepForward 86 = .ok (.ireturn, 1) := by decide +kernel
theorem dX_stepForward_87 : decode cX_stepForward 87 = .ok (.iload_n 3, 1) := by decide +kernel
theorem dX_stepForward_88 : decode cX_stepForward 88 = .ok (.ifCond .eq 24, 3) := by decide +kernel
theorem dX_stepForward_91 : decode cX_stepForward 91 = .ok (.aload_n 0, 1) := by decide +kernel
theorem dX_stepForward_92 : decode cX_stepForward 92 = .ok (.getfield 53, 3) := by decide +kernel
theorem dX_stepForward_95 : decode cX_stepForward 95 = .ok (.aload_n 0, 1) := by decide +kernel
theorem dX_stepForward_96 : decode cX_stepForward 96 = .ok (.getfield 31, 3) := by decide +kernel
theorem dX_stepForward_99 : decode cX_stepForward 99 = .ok (.iload_n 2, 1) := by decide +kernel
theorem dX_stepForward_100 : decode cX_stepForward 100 = .ok (.iaload, 1) := by decide +kernel
theorem dX_stepForward_101 : decode cX_stepForward 101 = .ok (.i2l, 1) := by decide +kernel
theorem dX_stepForward_102 : decode cX_stepForward 102 = .ok (.invokevirtual 194, 3) := by decide +kernel
theorem dX_stepForward_105 : decode cX_stepForward 105 = .ok (.ifCond .eq 7, 3) := by decide +kernel
theorem dX_stepForward_108 : decode cX_stepForward 108 = .ok (.iconst 1, 1) := by decide +kernel
theorem dX_stepForward_109 : decode cX_stepForward 109 = .ok (.goto 4, 3) := by decide +kernel
theorem dX_stepForward_112 : decode cX_stepForward 112 = .ok (.iconst 0, 1) := by decide +kernel
theorem dX_stepForward_113 : decode cX_stepForward 113 = .ok (.ireturn, 1) := by decide +kernel
theorem dX_stepForward_114 : decode cX_stepForward 114 = .ok (.iload_n 3, 1) := by decide +kernel
theorem dX_stepForward_115 : decode cX_stepForward 115 = .ok (.ifCond .eq 20, 3) := by decide +kernel
theorem dX_stepForward_118 : decode cX_stepForward 118 = .ok (.aload_n 0, 1) := by decide +kernel
theorem dX_stepForward_119 : decode cX_stepForward 119 = .ok (.getfield 53, 3) := by decide +kernel
theorem dX_stepForward_122 : decode cX_stepForward 122 = .ok (.aload_n 0, 1) := by decide +kernel
theorem dX_stepForward_123 : decode cX_stepForward 123 = .ok (.getfield 31, 3) := by decide +kernel
theorem dX_stepForward_126 : decode cX_stepForward 126 = .ok (.iload_n 2, 1) := by decide +kernel
theorem dX_stepForward_127 : decode cX_stepForward 127 = .ok (.iaload, 1) := by decide +kernel
theorem dX_stepForward_128 : decode cX_stepForward 128 = .ok (.i2l, 1) := by decide +kernel
theorem dX_stepForward_129 : decode cX_stepForward 129 = .ok (.invokevirtual 194, 3) := by decide +kernel
theorem dX_stepForward_132 : decode cX_stepForward 132 = .ok (.ifCond .eq 5, 3) := by decide +kernel
theorem dX_stepForward_135 : decode cX_stepForward 135 = .ok (.iconst 0, 1) := by decide +kernel
theorem dX_stepForward_136 : decode cX_stepForward 136 = .ok (.ireturn, 1) := by decide +kernel
theorem dX_stepForward_137 : decode cX_stepForward 137 = .ok (.aload_n 0, 1) := by decide +kernel
theorem dX_stepForward_138 : decode cX_stepForward 138 = .ok (.getfield 53, 3) := by decide +kernel
theorem dX_stepForward_141 : decode cX_stepForward 141 = .ok (.aload_n 0, 1) := by decide +kernel
theorem dX_stepForward_142 : decode cX_stepForward 142 = .ok (.getfield 31, 3) := by decide +kernel
theorem dX_stepForward_145 : decode cX_stepForward 145 = .ok (.iload_n 2, 1) := by decide +kernel
theorem dX_stepForward_146 : decode cX_stepForward 146 = .ok (.iaload, 1) := by decide +kernel
theorem dX_stepForward_147 : decode cX_stepForward 147 = .ok (.ineg, 1) := by decide +kernel
theorem dX_stepForward_148 : decode cX_stepForward 148 = .ok (.i2l, 1) := by decide +kernel
theorem dX_stepForward_149 : decode cX_stepForward 149 = .ok (.invokevirtual 190, 3) := by decide +kernel
theorem dX_stepForward_152 : decode cX_stepForward 152 = .ok (.iconst 1, 1) := by decide +kernel
theorem dX_stepForward_153 : decode cX_stepForward 153 = .ok (.ireturn, 1) := by decide +kernel
theorem dX_stepForward_154 : decode cX_stepForward 154 = .ok (.iload_n 3, 1) := by decide +kernel
theorem dX_stepForward_155 : decode cX_stepForward 155 = .ok (.ifCond .ne 16, 3) := by decide +kernel
theorem dX_stepForward_158 : decode cX_stepForward 158 = .ok (.aload_n 0, 1) := by decide +kernel
theorem dX_stepForward_159 : decode cX_stepForward 159 = .ok (.aload_n 0, 1) := by decide +kernel
theorem dX_stepForward_160 : decode cX_stepForward 160 = .ok (.getfield 25, 3) := by decide +kernel
theorem dX_stepForward_163 : decode cX_stepForward 163 = .ok (.iload_n 2, 1) := by decide +kernel
theorem dX_stepForward_164 : decode cX_stepForward 164 = .ok (.iaload, 1) := by decide +kernel
theorem dX_stepForward_165 : decode cX_stepForward 165 = .ok (.invokevirtual 205, 3) := by decide +kernel
theorem dX_stepForward_168 : decode cX_stepForward 168 = .ok (.ifCond .ne 5, 3) := by decide +kernel
theorem dX_stepForward_171 : decode cX_stepForward 171 = .ok (.iload_n 3, 1) := by decide +kernel
theorem dX_stepForward_172 : decode cX_stepForward 172 = .ok (.ireturn, 1) := by decide +kernel
theorem dX_stepForward_173 : decode cX_stepForward 173 = .ok (.aload_n 0, 1) := by decide +kernel
theorem dX_stepForward_174 : decode cX_stepForward 174 = .ok (.getfield 53, 3) := by decide +kernel
theorem dX_stepForward_177 : decode cX_stepForward 177 = .ok (.aload_n 0, 1) := by decide +kernel
theorem dX_stepForward_178 : decode cX_stepForward 178 = .ok (.getfield 31, 3) := by decide +kernel
theorem dX_stepForward_181 : decode cX_stepForward 181 = .ok (.iload_n 2, 1) := by decide +kernel
theorem dX_stepForward_182 : decode cX_stepForward 182 = .ok (.iaload, 1) := by decide +kernel
theorem dX_stepForward_183 : decode cX_stepForward 183 = .ok (.i2l, 1) := by decide +kernel
theorem dX_stepForward_184 : decode cX_stepForward 184 = .ok (.invokevirtual 190, 3) := by decide +kernel
theorem dX_stepForward_187 : decode cX_stepForward 187 = .ok (.iconst 1, 1) := by decide +kernel
theorem dX_stepForward_188 : decode cX_stepForward 188 = .ok (.ireturn, 1) := by decide +kernel
theorem dX_stepForward_189 : decode cX_stepForward 189 = .ok (.iload_n 3, 1) := by decide +kernel
theorem dX_stepForward_190 : decode cX_stepForward 190 = .ok (.ifCond .ne 5, 3) := by decide +kernel
theorem dX_stepForward_193 : decode cX_stepForward 193 = .ok (.iconst 0, 1) := by decide +kernel
theorem dX_stepForward_194 : decode cX_stepForward 194 = .ok (.ireturn, 1) := by decide +kernel
theorem dX_stepForward_195 : decode cX_stepForward 195 = .ok (.aload_n 0, 1) := by decide +kernel
theorem dX_stepForward_196 : decode cX_stepForward 196 = .ok (.getfield 53, 3) := by decide +kernel
theorem dX_stepForward_199 : decode cX_stepForward 199 = .ok (.aload_n 0, 1) := by decide +kernel
theorem dX_stepForward_200 : decode cX_stepForward 200 = .ok (.getfield 34, 3) := by decide +kernel
theorem dX_stepForward_203 : decode cX_stepForward 203 = .ok (.iload_n 2, 1) := by decide +kernel
theorem dX_stepForward_204 : decode cX_stepForward 204 = .ok (.iaload, 1) := by decide +kernel
theorem dX_stepForward_205 : decode cX_stepForward 205 = .ok (.i2l, 1) := by decide +kernel
theorem dX_stepForward_206 : decode cX_stepForward 206 = .ok (.aload_n 0, 1) := by decide +kernel
theorem dX_stepForward_207 : decode cX_stepForward 207 = .ok (.getfield 37, 3) := by decide +kernel
theorem dX_stepForward_210 : decode cX_stepForward 210 = .ok (.iload_n 2, 1) := by decide +kernel
theorem dX_stepForward_211 : decode cX_stepForward 211 = .ok (.iaload, 1) := by decide +kernel
theorem dX_stepForward_212 : decode cX_stepForward 212 = .ok (.i2l, 1) := by decide +kernel
theorem dX_stepForward_213 : decode cX_stepForward 213 = .ok (.invokevirtual 198, 3) := by decide +kernel
theorem dX_stepForward_216 : decode cX_stepForward 216 = .ok (.aload_n 0, 1) := by decide +kernel
theorem dX_stepForward_217 : decode cX_stepForward 217 = .ok (.getfield 53, 3) := by decide +kernel
theorem dX_stepForward_220 : decode cX_stepForward 220 = .ok (.aload_n 0, 1) := by decide +kernel
theorem dX_stepForward_221 : decode cX_stepForward 221 = .ok (.getfield 16, 3) := by decide +kernel
theorem dX_stepForward_224 : decode cX_stepForward 224 = .ok (.iload_n 2, 1) := by decide +kernel
theorem dX_stepForward_225 : decode cX_stepForward 225 = .ok (.iaload, 1) := by decide +kernel
theorem dX_stepForward_226 : decode cX_stepForward 226 = .ok (.i2l, 1) := by decide +kernel
theorem dX_stepForward_227 : decode cX_stepForward 227 = .ok (.invokevirtual 194, 3) := by decide +kernel
theorem dX_stepForward_230 : decode cX_stepForward 230 = .ok (.ireturn, 1) := by decide +kernel
theorem dX_stepForward_231 : decode cX_stepForward 231 = .ok (.iload_n 3, 1) := by decide +kernel
theorem dX_stepForward_232 : decode cX_stepForward 232 = .ok (.ireturn, 1) := by decide +kernel
theorem dX_takeFound_0 : decode cX_takeFound 0 = .ok (.aload_n 0, 1) := by decide +kernel
theorem dX_takeFound_1 : decode cX_takeFound 1 = .ok (.iload_n 1, 1) := by decide +kernel
theorem dX_takeFound_2 : decode cX_takeFound 2 = .ok (.invokevirtual 164, 3) := by decide +kernel
theorem dX_takeFound_5 : decode cX_takeFound 5 = .ok (.ifCond .ne 5, 3) := by decide +kernel
theorem dX_takeFound_8 : decode cX_takeFound 8 = .ok (.iconst 0, 1) := by decide +kernel
theorem dX_takeFound_9 : decode cX_takeFound 9 = .ok (.ireturn, 1) := by decide +kernel
theorem dX_takeFound_10 : decode cX_takeFound 10 = .ok (.aload_n 0, 1) := by decide +kernel
theorem dX_takeFound_11 : decode cX_takeFound 11 = .ok (.getfield 53, 3) := by decide +kernel
theorem dX_takeFound_14 : decode cX_takeFound 14 = .ok (.aload_n 0, 1) := by decide +kernel
theorem dX_takeFound_15 : decode cX_takeFound 15 = .ok (.getfield 57, 3) := by decide +kernel
theorem dX_takeFound_18 : decode cX_takeFound 18 = .ok (.iload_n 1, 1) := by decide +kernel
theorem dX_takeFound_19 : decode cX_takeFound 19 = .ok (.laload, 1) := by decide +kernel
theorem dX_takeFound_20 : decode cX_takeFound 20 = .ok (.aload_n 0, 1) := by decide +kernel
theorem dX_takeFound_21 : decode cX_takeFound 21 = .ok (.getfield 60, 3) := by decide +kernel
theorem dX_takeFound_24 : decode cX_takeFound 24 = .ok (.iload_n 1, 1) := by decide +kernel
theorem dX_takeFound_25 : decode cX_takeFound 25 = .ok (.laload, 1) := by decide +kernel
theorem dX_takeFound_26 : decode cX_takeFound 26 = .ok (.invokevirtual 182, 3) := by decide +kernel
theorem dX_takeFound_29 : decode cX_takeFound 29 = .ok (.aload_n 0, 1) := by decide +kernel
theorem dX_takeFound_30 : decode cX_takeFound 30 = .ok (.getfield 60, 3) := by decide +kernel
theorem dX_takeFound_33 : decode cX_takeFound 33 = .ok (.iload_n 1, 1) := by decide +kernel
theorem dX_takeFound_34 : decode cX_takeFound 34 = .ok (.laload, 1) := by decide +kernel
theorem dX_takeFound_35 : decode cX_takeFound 35 = .ok (.lconst 0, 1) := by decide +kernel
theorem dX_takeFound_36 : decode cX_takeFound 36 = .ok (.lcmp, 1) := by decide +kernel
theorem dX_takeFound_37 : decode cX_takeFound 37 = .ok (.ifCond .eq 7, 3) := by decide +kernel
theorem dX_takeFound_40 : decode cX_takeFound 40 = .ok (.iconst 1, 1) := by decide +kernel
theorem dX_takeFound_41 : decode cX_takeFound 41 = .ok (.goto 4, 3) := by decide +kernel
theorem dX_takeFound_44 : decode cX_takeFound 44 = .ok (.iconst 0, 1) := by decide +kernel
theorem dX_takeFound_45 : decode cX_takeFound 45 = .ok (.ireturn, 1) := by decide +kernel
theorem dP_init_0 : decode cP_init 0 = .ok (.aload_n 0, 1) := by decide +kernel
theorem dP_init_1 : decode cP_init 1 = .ok (.invokespecial 1, 3) := by decide +kernel
theorem dP_init_4 : decode cP_init 4 = .ok (.return_, 1) := by decide +kernel
theorem dP_set_0 : decode cP_set 0 = .ok (.aload_n 0, 1) := by decide +kernel
theorem dP_set_1 : decode cP_set 1 = .ok (.lload_n 1, 1) := by decide +kernel
theorem dP_set_2 : decode cP_set 2 = .ok (.putfield 7, 3) := by decide +kernel
theorem dP_set_5 : decode cP_set 5 = .ok (.aload_n 0, 1) := by decide +kernel
theorem dP_set_6 : decode cP_set 6 = .ok (.lload_n 3, 1) := by decide +kernel
theorem dP_set_7 : decode cP_set 7 = .ok (.putfield 13, 3) := by decide +kernel
theorem dP_set_10 : decode cP_set 10 = .ok (.return_, 1) := by decide +kernel
theorem dP_move_0 : decode cP_move 0 = .ok (.aload_n 0, 1) := by decide +kernel
theorem dP_move_1 : decode cP_move 1 = .ok (.dup, 1) := by decide +kernel
theorem dP_move_2 : decode cP_move 2 = .ok (.getfield 7, 3) := by decide +kernel
theorem dP_move_5 : decode cP_move 5 = .ok (.lload_n 1, 1) := by decide +kernel
theorem dP_move_6 : decode cP_move 6 = .ok (.aload_n 0, 1) := by decide +kernel
theorem dP_move_7 : decode cP_move 7 = .ok (.getfield 13, 3) := by decide +kernel
theorem dP_move_10 : decode cP_move 10 = .ok (.lmul, 1) := by decide +kernel
theorem dP_move_11 : decode cP_move 11 = .ok (.ladd, 1) := by decide +kernel
theorem dP_move_12 : decode cP_move 12 = .ok (.putfield 7, 3) := by decide +kernel
theorem dP_move_15 : decode cP_move 15 = .ok (.return_, 1) := by decide +kernel
theorem dP_stretch_0 : decode cP_stretch 0 = .ok (.aload_n 0, 1) := by decide +kernel
theorem dP_stretch_1 : decode cP_stretch 1 = .ok (.dup, 1) := by decide +kernel
theorem dP_stretch_2 : decode cP_stretch 2 = .ok (.getfield 7, 3) := by decide +kernel
theorem dP_stretch_5 : decode cP_stretch 5 = .ok (.lload_n 1, 1) := by decide +kernel
theorem dP_stretch_6 : decode cP_stretch 6 = .ok (.lmul, 1) := by decide +kernel
theorem dP_stretch_7 : decode cP_stretch 7 = .ok (.putfield 7, 3) := by decide +kernel
theorem dP_stretch_10 : decode cP_stretch 10 = .ok (.aload_n 0, 1) := by decide +kernel
theorem dP_stretch_11 : decode cP_stretch 11 = .ok (.dup, 1) := by decide +kernel
theorem dP_stretch_12 : decode cP_stretch 12 = .ok (.getfield 13, 3) := by decide +kernel
theorem dP_stretch_15 : decode cP_stretch 15 = .ok (.lload_n 3, 1) := by decide +kernel
theorem dP_stretch_16 : decode cP_stretch 16 = .ok (.lmul, 1) := by decide +kernel
theorem dP_stretch_17 : decode cP_stretch 17 = .ok (.putfield 13, 3) := by decide +kernel
theorem dP_stretch_20 : decode cP_stretch 20 = .ok (.aload_n 0, 1) := by decide +kernel
theorem dP_stretch_21 : decode cP_stretch 21 = .ok (.getfield 7, 3) := by decide +kernel
theorem dP_stretch_24 : decode cP_stretch 24 = .ok (.aload_n 0, 1) := by decide +kernel
theorem dP_stretch_25 : decode cP_stretch 25 = .ok (.getfield 13, 3) := by decide +kernel
theorem dP_stretch_28 : decode cP_stretch 28 = .ok (.invokestatic 16, 3) := by decide +kernel
theorem dP_stretch_31 : decode cP_stretch 31 = .ok (.lstore 5, 2) := by decide +kernel
theorem dP_stretch_33 : decode cP_stretch 33 = .ok (.lload 5, 2) := by decide +kernel
theorem dP_stretch_35 : decode cP_stretch 35 = .ok (.lconst 1, 1) := by decide +kernel
theorem dP_stretch_36 : decode cP_stretch 36 = .ok (.lcmp, 1) := by decide +kernel
theorem dP_stretch_37 : decode cP_stretch 37 = .ok (.ifCond .le 25, 3) := by decide +kernel
theorem dP_stretch_40 : decode cP_stretch 40 = .ok (.aload_n 0, 1) := by decide +kernel
theorem dP_stretch_41 : decode cP_stretch 41 = .ok (.dup, 1) := by decide +kernel
theorem dP_stretch_42 : decode cP_stretch 42 = .ok (.getfield 7, 3) := by decide +kernel
theorem dP_stretch_45 : decode cP_stretch 45 = .ok (.lload 5, 2) := by decide +kernel
theorem dP_stretch_47 : decode cP_stretch 47 = .ok (.ldiv, 1) := by decide +kernel
theorem dP_stretch_48 : decode cP_stretch 48 = .ok (.putfield 7, 3) := by decide +kernel
theorem dP_stretch_51 : decode cP_stretch 51 = .ok (.aload_n 0, 1) := by decide +kernel
theorem dP_stretch_52 : decode cP_stretch 52 = .ok (.dup, 1) := by decide +kernel
theorem dP_stretch_53 : decode cP_stretch 53 = .ok (.getfield 13, 3) := by decide +kernel
theorem dP_stretch_56 : decode cP_stretch 56 = .ok (.lload 5, 2) := by decide +kernel
theorem dP_stretch_58 : decode cP_stretch 58 = .ok (.ldiv, 1) := by decide +kernel
theorem dP_stretch_59 : decode cP_stretch 59 = .ok (.putfield 13, 3) := by decide +kernel
theorem dP_stretch_62 : decode cP_stretch 62 = .ok (.return_, 1) := by decide +kernel
theorem dP_isBelow_0 : decode cP_isBelow 0 = .ok (.aload_n 0, 1) := by decide +kernel
theorem dP_isBelow_1 : decode cP_isBelow 1 = .ok (.getfield 7, 3) := by decide +kernel
theorem dP_isBelow_4 : decode cP_isBelow 4 = .ok (.lload_n 1, 1) := by decide +kernel
theorem dP_isBelow_5 : decode cP_isBelow 5 = .ok (.aload_n 0, 1) := by decide +kernel
theorem dP_isBelow_6 : decode cP_isBelow 6 = .ok (.getfield 13, 3) := by decide +kernel
theorem dP_isBelow_9 : decode cP_isBelow 9 = .ok (.lmul, 1) := by decide +kernel
theorem dP_isBelow_10 : decode cP_isBelow 10 = .ok (.lcmp, 1) := by decide +kernel
theorem dP_isBelow_11 : decode cP_isBelow 11 = .ok (.ifCond .ge 7, 3) := by decide +kernel
theorem dP_isBelow_14 : decode cP_isBelow 14 = .ok (.iconst 1, 1) := by decide +kernel
theorem dP_isBelow_15 : decode cP_isBelow 15 = .ok (.goto 4, 3) := by decide +kernel
theorem dP_isBelow_18 : decode cP_isBelow 18 = .ok (.iconst 0, 1) := by decide +kernel
theorem dP_isBelow_19 : decode cP_isBelow 19 = .ok (.ireturn, 1) := by decide +kernel
theorem dP_commonDivisor_0 : decode cP_commonDivisor 0 = .ok (.lload_n 0, 1) := by decide +kernel
theorem dP_commonDivisor_1 : decode cP_commonDivisor 1 = .ok (.lstore 4, 2) := by decide +kernel
theorem dP_commonDivisor_3 : decode cP_commonDivisor 3 = .ok (.lload_n 2, 1) := by decide +kernel
theorem dP_commonDivisor_4 : decode cP_commonDivisor 4 = .ok (.lstore 6, 2) := by decide +kernel
theorem dP_commonDivisor_6 : decode cP_commonDivisor 6 = .ok (.iconst 0, 1) := by decide +kernel
theorem dP_commonDivisor_7 : decode cP_commonDivisor 7 = .ok (.istore 8, 2) := by decide +kernel
theorem dP_commonDivisor_9 : decode cP_commonDivisor 9 = .ok (.iload 8, 2) := by decide +kernel
theorem dP_commonDivisor_11 : decode cP_commonDivisor 11 = .ok (.bipush 100, 2) := by decide +kernel
theorem dP_commonDivisor_13 : decode cP_commonDivisor 13 = .ok (.if_icmp .ge 31, 3) := by decide +kernel
theorem dP_commonDivisor_16 : decode cP_commonDivisor 16 = .ok (.lload 6, 2) := by decide +kernel
theorem dP_commonDivisor_18 : decode cP_commonDivisor 18 = .ok (.lconst 0, 1) := by decide +kernel
theorem dP_commonDivisor_19 : decode cP_commonDivisor 19 = .ok (.lcmp, 1) := by decide +kernel
theorem dP_commonDivisor_20 : decode cP_commonDivisor 20 = .ok (.ifCond .eq 24, 3) := by decide +kernel
theorem dP_commonDivisor_23 : decode cP_commonDivisor 23 = .ok (.lload 4, 2) := by decide +kernel
theorem dP_commonDivisor_25 : decode cP_commonDivisor 25 = .ok (.lload 6, 2) := by decide +kernel
theorem dP_commonDivisor_27 : decode cP_commonDivisor 27 = .ok (.lrem, 1) := by decide +kernel
theorem dP_commonDivisor_28 : decode cP_commonDivisor 28 = .ok (.lstore 9, 2) := by decide +kernel
theorem dP_commonDivisor_30 : decode cP_commonDivisor 30 = .ok (.lload 6, 2) := by decide +kernel
theorem dP_commonDivisor_32 : decode cP_commonDivisor 32 = .ok (.lstore 4, 2) := by decide +kernel
theorem dP_commonDivisor_34 : decode cP_commonDivisor 34 = .ok (.lload 9, 2) := by decide +kernel
theorem dP_commonDivisor_36 : decode cP_commonDivisor 36 = .ok (.lstore 6, 2) := by decide +kernel
theorem dP_commonDivisor_38 : decode cP_commonDivisor 38 = .ok (.iinc 8 1, 3) := by decide +kernel
theorem dP_commonDivisor_41 : decode cP_commonDivisor 41 = .ok (.goto (-32), 3) := by decide +kernel
theorem dP_commonDivisor_44 : decode cP_commonDivisor 44 = .ok (.lload 4, 2) := by decide +kernel
theorem dP_commonDivisor_46 : decode cP_commonDivisor 46 = .ok (.lreturn, 1) := by decide +kernel
