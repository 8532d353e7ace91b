theorem dM_init_0 : decode cM_init 0 = .ok (.aload_n 0, 1) := by decide +kernel
theorem dM_init_1 : decode cM_init 1 = .ok (.invokespecial 1, 3) := by decide +kernel
theorem dM_init_4 : decode cM_init 4 = .ok (.aload_n 0, 1) := by decide +kernel
theorem dM_init_5 : decode cM_init 5 = .ok (.bipush 40, 2) := by decide +kernel
theorem dM_init_7 : decode cM_init 7 = .ok (.newarray .int, 2) := by decide +kernel
theorem dM_init_9 : decode cM_init 9 = .ok (.putfield 7, 3) := by decide +kernel
theorem dM_init_12 : decode cM_init 12 = .ok (.aload_n 0, 1) := by decide +kernel
theorem dM_init_13 : decode cM_init 13 = .ok (.bipush 40, 2) := by decide +kernel
theorem dM_init_15 : decode cM_init 15 = .ok (.newarray .int, 2) := by decide +kernel
theorem dM_init_17 : decode cM_init 17 = .ok (.putfield 13, 3) := by decide +kernel
theorem dM_init_20 : decode cM_init 20 = .ok (.aload_n 0, 1) := by decide +kernel
theorem dM_init_21 : decode cM_init 21 = .ok (.bipush 40, 2) := by decide +kernel
theorem dM_init_23 : decode cM_init 23 = .ok (.newarray .int, 2) := by decide +kernel
theorem dM_init_25 : decode cM_init 25 = .ok (.putfield 16, 3) := by decide +kernel
theorem dM_init_28 : decode cM_init 28 = .ok (.aload_n 0, 1) := by decide +kernel
theorem dM_init_29 : decode cM_init 29 = .ok (.bipush 40, 2) := by decide +kernel
theorem dM_init_31 : decode cM_init 31 = .ok (.newarray .int, 2) := by decide +kernel
theorem dM_init_33 : decode cM_init 33 = .ok (.putfield 19, 3) := by decide +kernel
theorem dM_init_36 : decode cM_init 36 = .ok (.aload_n 0, 1) := by decide +kernel
theorem dM_init_37 : decode cM_init 37 = .ok (.bipush 40, 2) := by decide +kernel
theorem dM_init_39 : decode cM_init 39 = .ok (.newarray .boolean, 2) := by decide +kernel
theorem dM_init_41 : decode cM_init 41 = .ok (.putfield 22, 3) := by decide +kernel
theorem dM_init_44 : decode cM_init 44 = .ok (.aload_n 0, 1) := by decide +kernel
theorem dM_init_45 : decode cM_init 45 = .ok (.bipush 40, 2) := by decide +kernel
theorem dM_init_47 : decode cM_init 47 = .ok (.newarray .int, 2) := by decide +kernel
theorem dM_init_49 : decode cM_init 49 = .ok (.putfield 26, 3) := by decide +kernel
theorem dM_init_52 : decode cM_init 52 = .ok (.aload_n 0, 1) := by decide +kernel
theorem dM_init_53 : decode cM_init 53 = .ok (.bipush 40, 2) := by decide +kernel
theorem dM_init_55 : decode cM_init 55 = .ok (.newarray .int, 2) := by decide +kernel
theorem dM_init_57 : decode cM_init 57 = .ok (.putfield 29, 3) := by decide +kernel
theorem dM_init_60 : decode cM_init 60 = .ok (.aload_n 0, 1) := by decide +kernel
theorem dM_init_61 : decode cM_init 61 = .ok (.bipush 40, 2) := by decide +kernel
theorem dM_init_63 : decode cM_init 63 = .ok (.newarray .int, 2) := by decide +kernel
theorem dM_init_65 : decode cM_init 65 = .ok (.putfield 32, 3) := by decide +kernel
theorem dM_init_68 : decode cM_init 68 = .ok (.aload_n 0, 1) := by decide +kernel
theorem dM_init_69 : decode cM_init 69 = .ok (.bipush 40, 2) := by decide +kernel
theorem dM_init_71 : decode cM_init 71 = .ok (.newarray .int, 2) := by decide +kernel
theorem dM_init_73 : decode cM_init 73 = .ok (.putfield 35, 3) := by decide +kernel
theorem dM_init_76 : decode cM_init 76 = .ok (.aload_n 0, 1) := by decide +kernel
theorem dM_init_77 : decode cM_init 77 = .ok (.bipush 40, 2) := by decide +kernel
theorem dM_init_79 : decode cM_init 79 = .ok (.newarray .int, 2) := by decide +kernel
theorem dM_init_81 : decode cM_init 81 = .ok (.putfield 38, 3) := by decide +kernel
theorem dM_init_84 : decode cM_init 84 = .ok (.aload_n 0, 1) := by decide +kernel
theorem dM_init_85 : decode cM_init 85 = .ok (.bipush 40, 2) := by decide +kernel
theorem dM_init_87 : decode cM_init 87 = .ok (.newarray .int, 2) := by decide +kernel
theorem dM_init_89 : decode cM_init 89 = .ok (.putfield 41, 3) := by decide +kernel
theorem dM_init_92 : decode cM_init 92 = .ok (.aload_n 0, 1) := by decide +kernel
theorem dM_init_93 : decode cM_init 93 = .ok (.bipush 10, 2) := by decide +kernel
theorem dM_init_95 : decode cM_init 95 = .ok (.newarray .int, 2) := by decide +kernel
theorem dM_init_97 : decode cM_init 97 = .ok (.putfield 44, 3) := by decide +kernel
theorem dM_init_100 : decode cM_init 100 = .ok (.aload_n 0, 1) := by decide +kernel
theorem dM_init_101 : decode cM_init 101 = .ok (.bipush 10, 2) := by decide +kernel
theorem dM_init_103 : decode cM_init 103 = .ok (.newarray .long, 2) := by decide +kernel
theorem dM_init_105 : decode cM_init 105 = .ok (.putfield 47, 3) := by decide +kernel
theorem dM_init_108 : decode cM_init 108 = .ok (.aload_n 0, 1) := by decide +kernel
theorem dM_init_109 : decode cM_init 109 = .ok (.bipush 10, 2) := by decide +kernel
theorem dM_init_111 : decode cM_init 111 = .ok (.newarray .long, 2) := by decide +kernel
theorem dM_init_113 : decode cM_init 113 = .ok (.putfield 51, 3) := by decide +kernel
theorem dM_init_116 : decode cM_init 116 = .ok (.aload_n 0, 1) := by decide +kernel
theorem dM_init_117 : decode cM_init 117 = .ok (.bipush 40, 2) := by decide +kernel
theorem dM_init_119 : decode cM_init 119 = .ok (.newarray .long, 2) := by decide +kernel
theorem dM_init_121 : decode cM_init 121 = .ok (.putfield 54, 3) := by decide +kernel
theorem dM_init_124 : decode cM_init 124 = .ok (.aload_n 0, 1) := by decide +kernel
theorem dM_init_125 : decode cM_init 125 = .ok (.bipush 40, 2) := by decide +kernel
theorem dM_init_127 : decode cM_init 127 = .ok (.newarray .long, 2) := by decide +kernel
theorem dM_init_129 : decode cM_init 129 = .ok (.putfield 57, 3) := by decide +kernel
theorem dM_init_132 : decode cM_init 132 = .ok (.return_, 1) := by decide +kernel
theorem dM_thrown_0 : decode cM_thrown 0 = .ok (.aload_n 0, 1) := by decide +kernel
theorem dM_thrown_1 : decode cM_thrown 1 = .ok (.getfield 60, 3) := by decide +kernel
theorem dM_thrown_4 : decode cM_thrown 4 = .ok (.ireturn, 1) := by decide +kernel
theorem dM_throwing_0 : decode cM_throwing 0 = .ok (.aload_n 0, 1) := by decide +kernel
theorem dM_throwing_1 : decode cM_throwing 1 = .ok (.iload_n 1, 1) := by decide +kernel
theorem dM_throwing_2 : decode cM_throwing 2 = .ok (.ifCond .eq 7, 3) := by decide +kernel
theorem dM_throwing_5 : decode cM_throwing 5 = .ok (.iconst 1, 1) := by decide +kernel
theorem dM_throwing_6 : decode cM_throwing 6 = .ok (.goto 29, 3) := by decide +kernel
theorem dM_throwing_9 : decode cM_throwing 9 = .ok (.iload_n 2, 1) := by decide +kernel
theorem dM_throwing_10 : decode cM_throwing 10 = .ok (.ifCond .eq 7, 3) := by decide +kernel
theorem dM_throwing_13 : decode cM_throwing 13 = .ok (.iconst 2, 1) := by decide +kernel
theorem dM_throwing_14 : decode cM_throwing 14 = .ok (.goto 21, 3) := by decide +kernel
theorem dM_throwing_17 : decode cM_throwing 17 = .ok (.iload_n 3, 1) := by decide +kernel
theorem dM_throwing_18 : decode cM_throwing 18 = .ok (.ifCond .eq 7, 3) := by decide +kernel
theorem dM_throwing_21 : decode cM_throwing 21 = .ok (.iconst 3, 1) := by decide +kernel
theorem dM_throwing_22 : decode cM_throwing 22 = .ok (.goto 13, 3) := by decide +kernel
theorem dM_throwing_25 : decode cM_throwing 25 = .ok (.iload 4, 2) := by decide +kernel
theorem dM_throwing_27 : decode cM_throwing 27 = .ok (.ifCond .eq 7, 3) := by decide +kernel
theorem dM_throwing_30 : decode cM_throwing 30 = .ok (.iconst 4, 1) := by decide +kernel
theorem dM_throwing_31 : decode cM_throwing 31 = .ok (.goto 4, 3) := by decide +kernel
theorem dM_throwing_34 : decode cM_throwing 34 = .ok (.iconst 0, 1) := by decide +kernel
theorem dM_throwing_35 : decode cM_throwing 35 = .ok (.putfield 60, 3) := by decide +kernel
theorem dM_throwing_38 : decode cM_throwing 38 = .ok (.aload_n 0, 1) := by decide +kernel
theorem dM_throwing_39 : decode cM_throwing 39 = .ok (.getfield 60, 3) := by decide +kernel
theorem dM_throwing_42 : decode cM_throwing 42 = .ok (.ifCond .le 7, 3) := by decide +kernel
theorem dM_throwing_45 : decode cM_throwing 45 = .ok (.iconst 1, 1) := by decide +kernel
theorem dM_throwing_46 : decode cM_throwing 46 = .ok (.goto 4, 3) := by decide +kernel
theorem dM_throwing_49 : decode cM_throwing 49 = .ok (.iconst 0, 1) := by decide +kernel
theorem dM_throwing_50 : decode cM_throwing 50 = .ok (.ireturn, 1) := by decide +kernel
theorem dM_in_0 : decode cM_in 0 = .ok (.iload_n 0, 1) := by decide +kernel
theorem dM_in_1 : decode cM_in 1 = .ok (.iload_n 1, 1) := by decide +kernel
theorem dM_in_2 : decode cM_in 2 = .ok (.if_icmp .lt 12, 3) := by decide +kernel
theorem dM_in_5 : decode cM_in 5 = .ok (.iload_n 0, 1) := by decide +kernel
theorem dM_in_6 : decode cM_in 6 = .ok (.iload_n 2, 1) := by decide +kernel
theorem dM_in_7 : decode cM_in 7 = .ok (.if_icmp .gt 7, 3) := by decide +kernel
theorem dM_in_10 : decode cM_in 10 = .ok (.iconst 1, 1) := by decide +kernel
theorem dM_in_11 : decode cM_in 11 = .ok (.goto 4, 3) := by decide +kernel
theorem dM_in_14 : decode cM_in 14 = .ok (.iconst 0, 1) := by decide +kernel
theorem dM_in_15 : decode cM_in 15 = .ok (.ireturn, 1) := by decide +kernel
theorem dM_isPiece_0 : decode cM_isPiece 0 = .ok (.iload_n 1, 1) := by decide +kernel
theorem dM_isPiece_1 : decode cM_isPiece 1 = .ok (.iconst 0, 1) := by decide +kernel
theorem dM_isPiece_2 : decode cM_isPiece 2 = .ok (.aload_n 0, 1) := by decide +kernel
theorem dM_isPiece_3 : decode cM_isPiece 3 = .ok (.getfield 64, 3) := by decide +kernel
theorem dM_isPiece_6 : decode cM_isPiece 6 = .ok (.iconst 1, 1) := by decide +kernel
theorem dM_isPiece_7 : decode cM_isPiece 7 = .ok (.isub, 1) := by decide +kernel
theorem dM_isPiece_8 : decode cM_isPiece 8 = .ok (.invokestatic 67, 3) := by decide +kernel
theorem dM_isPiece_11 : decode cM_isPiece 11 = .ok (.ireturn, 1) := by decide +kernel
theorem dM_isAtHand_0 : decode cM_isAtHand 0 = .ok (.aload_n 0, 1) := by decide +kernel
theorem dM_isAtHand_1 : decode cM_isAtHand 1 = .ok (.iload_n 1, 1) := by decide +kernel
theorem dM_isAtHand_2 : decode cM_isAtHand 2 = .ok (.invokevirtual 71, 3) := by decide +kernel
theorem dM_isAtHand_5 : decode cM_isAtHand 5 = .ok (.ifCond .eq 25, 3) := by decide +kernel
theorem dM_isAtHand_8 : decode cM_isAtHand 8 = .ok (.aload_n 0, 1) := by decide +kernel
theorem dM_isAtHand_9 : decode cM_isAtHand 9 = .ok (.getfield 19, 3) := by decide +kernel
theorem dM_isAtHand_12 : decode cM_isAtHand 12 = .ok (.iload_n 1, 1) := by decide +kernel
theorem dM_isAtHand_13 : decode cM_isAtHand 13 = .ok (.iaload, 1) := by decide +kernel
theorem dM_isAtHand_14 : decode cM_isAtHand 14 = .ok (.ifCond .ne 16, 3) := by decide +kernel
theorem dM_isAtHand_17 : decode cM_isAtHand 17 = .ok (.aload_n 0, 1) := by decide +kernel
theorem dM_isAtHand_18 : decode cM_isAtHand 18 = .ok (.getfield 22, 3) := by decide +kernel
theorem dM_isAtHand_21 : decode cM_isAtHand 21 = .ok (.iload_n 1, 1) := by decide +kernel
theorem dM_isAtHand_22 : decode cM_isAtHand 22 = .ok (.baload, 1) := by decide +kernel
theorem dM_isAtHand_23 : decode cM_isAtHand 23 = .ok (.ifCond .ne 7, 3) := by decide +kernel
theorem dM_isAtHand_26 : decode cM_isAtHand 26 = .ok (.iconst 1, 1) := by decide +kernel
theorem dM_isAtHand_27 : decode cM_isAtHand 27 = .ok (.goto 4, 3) := by decide +kernel
theorem dM_isAtHand_30 : decode cM_isAtHand 30 = .ok (.iconst 0, 1) := by decide +kernel
theorem dM_isAtHand_31 : decode cM_isAtHand 31 = .ok (.ireturn, 1) := by decide +kernel
theorem dM_add_0 : decode cM_add 0 = .ok (.aload_n 0, 1) := by decide +kernel
theorem dM_add_1 : decode cM_add 1 = .ok (.getfield 7, 3) := by decide +kernel
theorem dM_add_4 : decode cM_add 4 = .ok (.aload_n 0, 1) := by decide +kernel
theorem dM_add_5 : decode cM_add 5 = .ok (.getfield 64, 3) := by decide +kernel
theorem dM_add_8 : decode cM_add 8 = .ok (.iload_n 1, 1) := by decide +kernel
theorem dM_add_9 : decode cM_add 9 = .ok (.iastore, 1) := by decide +kernel
theorem dM_add_10 : decode cM_add 10 = .ok (.aload_n 0, 1) := by decide +kernel
theorem dM_add_11 : decode cM_add 11 = .ok (.getfield 13, 3) := by decide +kernel
theorem dM_add_14 : decode cM_add 14 = .ok (.aload_n 0, 1) := by decide +kernel
theorem dM_add_15 : decode cM_add 15 = .ok (.getfield 64, 3) := by decide +kernel
theorem dM_add_18 : decode cM_add 18 = .ok (.iload_n 3, 1) := by decide +kernel
theorem dM_add_19 : decode cM_add 19 = .ok (.iastore, 1) := by decide +kernel
theorem dM_add_20 : decode cM_add 20 = .ok (.aload_n 0, 1) := by decide +kernel
theorem dM_add_21 : decode cM_add 21 = .ok (.getfield 16, 3) := by decide +kernel
theorem dM_add_24 : decode cM_add 24 = .ok (.aload_n 0, 1) := by decide +kernel
theorem dM_add_25 : decode cM_add 25 = .ok (.getfield 64, 3) := by decide +kernel
theorem dM_add_28 : decode cM_add 28 = .ok (.iload 4, 2) := by decide +kernel
theorem dM_add_30 : decode cM_add 30 = .ok (.iastore, 1) := by decide +kernel
theorem dM_add_31 : decode cM_add 31 = .ok (.aload_n 0, 1) := by decide +kernel
theorem dM_add_32 : decode cM_add 32 = .ok (.getfield 19, 3) := by decide +kernel
theorem dM_add_35 : decode cM_add 35 = .ok (.aload_n 0, 1) := by decide +kernel
theorem dM_add_36 : decode cM_add 36 = .ok (.getfield 64, 3) := by decide +kernel
theorem dM_add_39 : decode cM_add 39 = .ok (.iconst 0, 1) := by decide +kernel
theorem dM_add_40 : decode cM_add 40 = .ok (.iastore, 1) := by decide +kernel
theorem dM_add_41 : decode cM_add 41 = .ok (.aload_n 0, 1) := by decide +kernel
theorem dM_add_42 : decode cM_add 42 = .ok (.getfield 22, 3) := by decide +kernel
theorem dM_add_45 : decode cM_add 45 = .ok (.aload_n 0, 1) := by decide +kernel
theorem dM_add_46 : decode cM_add 46 = .ok (.getfield 64, 3) := by decide +kernel
theorem dM_add_49 : decode cM_add 49 = .ok (.iconst 0, 1) := by decide +kernel
theorem dM_add_50 : decode cM_add 50 = .ok (.bastore, 1) := by decide +kernel
theorem dM_add_51 : decode cM_add 51 = .ok (.aload_n 0, 1) := by decide +kernel
theorem dM_add_52 : decode cM_add 52 = .ok (.getfield 26, 3) := by decide +kernel
theorem dM_add_55 : decode cM_add 55 = .ok (.aload_n 0, 1) := by decide +kernel
theorem dM_add_56 : decode cM_add 56 = .ok (.getfield 64, 3) := by decide +kernel
theorem dM_add_59 : decode cM_add 59 = .ok (.iload_n 2, 1) := by decide +kernel
theorem dM_add_60 : decode cM_add 60 = .ok (.iastore, 1) := by decide +kernel
theorem dM_add_61 : decode cM_add 61 = .ok (.aload_n 0, 1) := by decide +kernel
theorem dM_add_62 : decode cM_add 62 = .ok (.getfield 29, 3) := by decide +kernel
theorem dM_add_65 : decode cM_add 65 = .ok (.aload_n 0, 1) := by decide +kernel
theorem dM_add_66 : decode cM_add 66 = .ok (.getfield 64, 3) := by decide +kernel
theorem dM_add_69 : decode cM_add 69 = .ok (.iconst (-1), 1) := by decide +kernel
theorem dM_add_70 : decode cM_add 70 = .ok (.iastore, 1) := by decide +kernel
theorem dM_add_71 : decode cM_add 71 = .ok (.aload_n 0, 1) := by decide +kernel
theorem dM_add_72 : decode cM_add 72 = .ok (.getfield 41, 3) := by decide +kernel
theorem dM_add_75 : decode cM_add 75 = .ok (.aload_n 0, 1) := by decide +kernel
theorem dM_add_76 : decode cM_add 76 = .ok (.getfield 64, 3) := by decide +kernel
theorem dM_add_79 : decode cM_add 79 = .ok (.iload_n 2, 1) := by decide +kernel
theorem dM_add_80 : decode cM_add 80 = .ok (.ifCond .ge 7, 3) := by decide +kernel
theorem dM_add_83 : decode cM_add 83 = .ok (.iconst 0, 1) := by decide +kernel
theorem dM_add_84 : decode cM_add 84 = .ok (.goto 9, 3) := by decide +kernel
theorem dM_add_87 : decode cM_add 87 = .ok (.aload_n 0, 1) := by decide +kernel
theorem dM_add_88 : decode cM_add 88 = .ok (.getfield 41, 3) := by decide +kernel
theorem dM_add_91 : decode cM_add 91 = .ok (.iload_n 2, 1) := by decide +kernel
theorem dM_add_92 : decode cM_add 92 = .ok (.iaload, 1) := by decide +kernel
theorem dM_add_93 : decode cM_add 93 = .ok (.iastore, 1) := by decide +kernel
theorem dM_add_94 : decode cM_add 94 = .ok (.iload_n 2, 1) := by decide +kernel
theorem dM_add_95 : decode cM_add 95 = .ok (.ifCond .lt 10, 3) := by decide +kernel
theorem dM_add_98 : decode cM_add 98 = .ok (.aload_n 0, 1) := by decide +kernel
theorem dM_add_99 : decode cM_add 99 = .ok (.getfield 19, 3) := by decide +kernel
theorem dM_add_102 : decode cM_add 102 = .ok (.iload_n 2, 1) := by decide +kernel
theorem dM_add_103 : decode cM_add 103 = .ok (.iconst 1, 1) := by decide +kernel
theorem dM_add_104 : decode cM_add 104 = .ok (.iastore, 1) := by decide +kernel
theorem dM_add_105 : decode cM_add 105 = .ok (.aload_n 0, 1) := by decide +kernel
theorem dM_add_106 : decode cM_add 106 = .ok (.dup, 1) := by decide +kernel
theorem dM_add_107 : decode cM_add 107 = .ok (.getfield 64, 3) := by decide +kernel
theorem dM_add_110 : decode cM_add 110 = .ok (.iconst 1, 1) := by decide +kernel
theorem dM_add_111 : decode cM_add 111 = .ok (.iadd, 1) := by decide +kernel
theorem dM_add_112 : decode cM_add 112 = .ok (.putfield 64, 3) := by decide +kernel
theorem dM_add_115 : decode cM_add 115 = .ok (.aload_n 0, 1) := by decide +kernel
theorem dM_add_116 : decode cM_add 116 = .ok (.getfield 64, 3) := by decide +kernel
theorem dM_add_119 : decode cM_add 119 = .ok (.iconst 1, 1) := by decide +kernel
theorem dM_add_120 : decode cM_add 120 = .ok (.isub, 1) := by decide +kernel
theorem dM_add_121 : decode cM_add 121 = .ok (.ireturn, 1) := by decide +kernel
theorem dM_melt_0 : decode cM_melt 0 = .ok (.aload_n 0, 1) := by decide +kernel
theorem dM_melt_1 : decode cM_melt 1 = .ok (.iload_n 1, 1) := by decide +kernel
theorem dM_melt_2 : decode cM_melt 2 = .ok (.iconst 1, 1) := by decide +kernel
theorem dM_melt_3 : decode cM_melt 3 = .ok (.ldc 75, 2) := by decide +kernel
theorem dM_melt_5 : decode cM_melt 5 = .ok (.invokestatic 67, 3) := by decide +kernel
theorem dM_melt_8 : decode cM_melt 8 = .ok (.ifCond .eq 13, 3) := by decide +kernel
theorem dM_melt_11 : decode cM_melt 11 = .ok (.iload_n 2, 1) := by decide +kernel
theorem dM_melt_12 : decode cM_melt 12 = .ok (.iconst 1, 1) := by decide +kernel
theorem dM_melt_13 : decode cM_melt 13 = .ok (.ldc 75, 2) := by decide +kernel
theorem dM_melt_15 : decode cM_melt 15 = .ok (.invokestatic 67, 3) := by decide +kernel
theorem dM_melt_18 : decode cM_melt 18 = .ok (.ifCond .ne 7, 3) := by decide +kernel
theorem dM_melt_21 : decode cM_melt 21 = .ok (.iconst 1, 1) := by decide +kernel
theorem dM_melt_22 : decode cM_melt 22 = .ok (.goto 4, 3) := by decide +kernel
theorem dM_melt_25 : decode cM_melt 25 = .ok (.iconst 0, 1) := by decide +kernel
theorem dM_melt_26 : decode cM_melt 26 = .ok (.aload_n 0, 1) := by decide +kernel
theorem dM_melt_27 : decode cM_melt 27 = .ok (.getfield 64, 3) := by decide +kernel
theorem dM_melt_30 : decode cM_melt 30 = .ok (.bipush 40, 2) := by decide +kernel
theorem dM_melt_32 : decode cM_melt 32 = .ok (.if_icmp .ne 7, 3) := by decide +kernel
theorem dM_melt_35 : decode cM_melt 35 = .ok (.iconst 1, 1) := by decide +kernel
theorem dM_melt_36 : decode cM_melt 36 = .ok (.goto 4, 3) := by decide +kernel
theorem dM_melt_39 : decode cM_melt 39 = .ok (.iconst 0, 1) := by decide +kernel
theorem dM_melt_40 : decode cM_melt 40 = .ok (.iconst 0, 1) := by decide +kernel
theorem dM_melt_41 : decode cM_melt 41 = .ok (.iconst 0, 1) := by decide +kernel
theorem dM_melt_42 : decode cM_melt 42 = .ok (.invokevirtual 76, 3) := by decide +kernel
theorem dM_melt_45 : decode cM_melt 45 = .ok (.ifCond .eq 5, 3) := by decide +kernel
theorem dM_melt_48 : decode cM_melt 48 = .ok (.iconst 0, 1) := by decide +kernel
theorem dM_melt_49 : decode cM_melt 49 = .ok (.ireturn, 1) := by decide +kernel
theorem dM_melt_50 : decode cM_melt 50 = .ok (.aload_n 0, 1) := by decide +kernel
theorem dM_melt_51 : decode cM_melt 51 = .ok (.dup, 1) := by decide +kernel
theorem dM_melt_52 : decode cM_melt 52 = .ok (.getfield 80, 3) := by decide +kernel
theorem dM_melt_55 : decode cM_melt 55 = .ok (.iload_n 1, 1) := by decide +kernel
theorem dM_melt_56 : decode cM_melt 56 = .ok (.i2l, 1) := by decide +kernel
theorem dM_melt_57 : decode cM_melt 57 = .ok (.ladd, 1) := by decide +kernel
theorem dM_melt_58 : decode cM_melt 58 = .ok (.putfield 80, 3) := by decide +kernel
theorem dM_melt_61 : decode cM_melt 61 = .ok (.aload_n 0, 1) := by decide +kernel
theorem dM_melt_62 : decode cM_melt 62 = .ok (.iconst 0, 1) := by decide +kernel
theorem dM_melt_63 : decode cM_melt 63 = .ok (.iconst (-1), 1) := by decide +kernel
theorem dM_melt_64 : decode cM_melt 64 = .ok (.iload_n 1, 1) := by decide +kernel
theorem dM_melt_65 : decode cM_melt 65 = .ok (.iload_n 2, 1) := by decide +kernel
theorem dM_melt_66 : decode cM_melt 66 = .ok (.invokevirtual 84, 3) := by decide +kernel
theorem dM_melt_69 : decode cM_melt 69 = .ok (.ireturn, 1) := by decide +kernel
theorem dM_cut_0 : decode cM_cut 0 = .ok (.aload_n 0, 1) := by decide +kernel
theorem dM_cut_1 : decode cM_cut 1 = .ok (.iload_n 1, 1) := by decide +kernel
theorem dM_cut_2 : decode cM_cut 2 = .ok (.invokevirtual 71, 3) := by decide +kernel
theorem dM_cut_5 : decode cM_cut 5 = .ok (.ifCond .ne 7, 3) := by decide +kernel
theorem dM_cut_8 : decode cM_cut 8 = .ok (.iconst 1, 1) := by decide +kernel
theorem dM_cut_9 : decode cM_cut 9 = .ok (.goto 4, 3) := by decide +kernel
theorem dM_cut_12 : decode cM_cut 12 = .ok (.iconst 0, 1) := by decide +kernel
theorem dM_cut_13 : decode cM_cut 13 = .ok (.istore_n 3, 1) := by decide +kernel
theorem dM_cut_14 : decode cM_cut 14 = .ok (.aload_n 0, 1) := by decide +kernel
theorem dM_cut_15 : decode cM_cut 15 = .ok (.iload_n 3, 1) := by decide +kernel
theorem dM_cut_16 : decode cM_cut 16 = .ok (.aload_n 0, 1) := by decide +kernel
theorem dM_cut_17 : decode cM_cut 17 = .ok (.iload_n 1, 1) := by decide +kernel
theorem dM_cut_18 : decode cM_cut 18 = .ok (.invokevirtual 88, 3) := by decide +kernel
theorem dM_cut_21 : decode cM_cut 21 = .ok (.ifCond .ne 7, 3) := by decide +kernel
theorem dM_cut_24 : decode cM_cut 24 = .ok (.iconst 1, 1) := by decide +kernel
theorem dM_cut_25 : decode cM_cut 25 = .ok (.goto 4, 3) := by decide +kernel
theorem dM_cut_28 : decode cM_cut 28 = .ok (.iconst 0, 1) := by decide +kernel
theorem dM_cut_29 : decode cM_cut 29 = .ok (.iload_n 3, 1) := by decide +kernel
theorem dM_cut_30 : decode cM_cut 30 = .ok (.ifCond .ne 31, 3) := by decide +kernel
theorem dM_cut_33 : decode cM_cut 33 = .ok (.iload_n 2, 1) := by decide +kernel
theorem dM_cut_34 : decode cM_cut 34 = .ok (.iconst 1, 1) := by decide +kernel
theorem dM_cut_35 : decode cM_cut 35 = .ok (.aload_n 0, 1) := by decide +kernel
theorem dM_cut_36 : decode cM_cut 36 = .ok (.getfield 16, 3) := by decide +kernel
theorem dM_cut_39 : decode cM_cut 39 = .ok (.iload_n 3, 1) := by decide +kernel
theorem dM_cut_40 : decode cM_cut 40 = .ok (.ifCond .eq 7, 3) := by decide +kernel
theorem dM_cut_43 : decode cM_cut 43 = .ok (.iconst 0, 1) := by decide +kernel
theorem dM_cut_44 : decode cM_cut 44 = .ok (.goto 4, 3) := by decide +kernel
theorem dM_cut_47 : decode cM_cut 47 = .ok (.iload_n 1, 1) := by decide +kernel
theorem dM_cut_48 : decode cM_cut 48 = .ok (.iaload, 1) := by decide +kernel
theorem dM_cut_49 : decode cM_cut 49 = .ok (.iconst 1, 1) := by decide +kernel
theorem dM_cut_50 : decode cM_cut 50 = .ok (.isub, 1) := by decide +kernel
theorem dM_cut_51 : decode cM_cut 51 = .ok (.invokestatic 67, 3) := by decide +kernel
theorem dM_cut_54 : decode cM_cut 54 = .ok (.ifCond .ne 7, 3) := by decide +kernel
theorem dM_cut_57 : decode cM_cut 57 = .ok (.iconst 1, 1) := by decide +kernel
theorem dM_cut_58 : decode cM_cut 58 = .ok (.goto 4, 3) := by decide +kernel
theorem dM_cut_61 : decode cM_cut 61 = .ok (.iconst 0, 1) := by decide +kernel
theorem dM_cut_62 : decode cM_cut 62 = .ok (.aload_n 0, 1) := by decide +kernel
theorem dM_cut_63 : decode cM_cut 63 = .ok (.getfield 64, 3) := by decide +kernel
theorem dM_cut_66 : decode cM_cut 66 = .ok (.iconst 2, 1) := by decide +kernel
theorem dM_cut_67 : decode cM_cut 67 = .ok (.iadd, 1) := by decide +kernel
theorem dM_cut_68 : decode cM_cut 68 = .ok (.bipush 40, 2) := by decide +kernel
theorem dM_cut_70 : decode cM_cut 70 = .ok (.if_icmp .le 7, 3) := by decide +kernel
theorem dM_cut_73 : decode cM_cut 73 = .ok (.iconst 1, 1) := by decide +kernel
theorem dM_cut_74 : decode cM_cut 74 = .ok (.goto 4, 3) := by decide +kernel
theorem dM_cut_77 : decode cM_cut 77 = .ok (.iconst 0, 1) := by decide +kernel
theorem dM_cut_78 : decode cM_cut 78 = .ok (.invokevirtual 76, 3) := by decide +kernel
theorem dM_cut_81 : decode cM_cut 81 = .ok (.ifCond .eq 5, 3) := by decide +kernel
theorem dM_cut_84 : decode cM_cut 84 = .ok (.iconst 0, 1) := by decide +kernel
theorem dM_cut_85 : decode cM_cut 85 = .ok (.ireturn, 1) := by decide +kernel
theorem dM_cut_86 : decode cM_cut 86 = .ok (.aload_n 0, 1) := by decide +kernel
theorem dM_cut_87 : decode cM_cut 87 = .ok (.getfield 13, 3) := by decide +kernel
theorem dM_cut_90 : decode cM_cut 90 = .ok (.iload_n 1, 1) := by decide +kernel
theorem dM_cut_91 : decode cM_cut 91 = .ok (.iaload, 1) := by decide +kernel
theorem dM_cut_92 : decode cM_cut 92 = .ok (.i2l, 1) := by decide +kernel
theorem dM_cut_93 : decode cM_cut 93 = .ok (.iload_n 2, 1) := by decide +kernel
theorem dM_cut_94 : decode cM_cut 94 = .ok (.i2l, 1) := by decide +kernel
theorem dM_cut_95 : decode cM_cut 95 = .ok (.lmul, 1) := by decide +kernel
theorem dM_cut_96 : decode cM_cut 96 = .ok (.aload_n 0, 1) := by decide +kernel
theorem dM_cut_97 : decode cM_cut 97 = .ok (.getfield 16, 3) := by decide +kernel
theorem dM_cut_100 : decode cM_cut 100 = .ok (.iload_n 1, 1) := by decide +kernel
theorem dM_cut_101 : decode cM_cut 101 = .ok (.iaload, 1) := by decide +kernel
theorem dM_cut_102 : decode cM_cut 102 = .ok (.i2l, 1) := by decide +kernel
theorem dM_cut_103 : decode cM_cut 103 = .ok (.ldiv, 1) := by decide +kernel
theorem dM_cut_104 : decode cM_cut 104 = .ok (.l2i, 1) := by decide +kernel
theorem dM_cut_105 : decode cM_cut 105 = .ok (.istore 4, 2) := by decide +kernel
theorem dM_cut_107 : decode cM_cut 107 = .ok (.aload_n 0, 1) := by decide +kernel
theorem dM_cut_108 : decode cM_cut 108 = .ok (.iconst 1, 1) := by decide +kernel
theorem dM_cut_109 : decode cM_cut 109 = .ok (.iload_n 1, 1) := by decide +kernel
theorem dM_cut_110 : decode cM_cut 110 = .ok (.iload 4, 2) := by decide +kernel
theorem dM_cut_112 : decode cM_cut 112 = .ok (.iload_n 2, 1) := by decide +kernel
theorem dM_cut_113 : decode cM_cut 113 = .ok (.invokevirtual 84, 3) := by decide +kernel
theorem dM_cut_116 : decode cM_cut 116 = .ok (.istore 5, 2) := by decide +kernel
theorem dM_cut_118 : decode cM_cut 118 = .ok (.aload_n 0, 1) := by decide +kernel
theorem dM_cut_119 : decode cM_cut 119 = .ok (.iconst 2, 1) := by decide +kernel
theorem dM_cut_120 : decode cM_cut 120 = .ok (.iload_n 1, 1) := by decide +kernel
theorem dM_cut_121 : decode cM_cut 121 = .ok (.aload_n 0, 1) := by decide +kernel
theorem dM_cut_122 : decode cM_cut 122 = .ok (.getfield 13, 3) := by decide +kernel
theorem dM_cut_125 : decode cM_cut 125 = .ok (.iload_n 1, 1) := by decide +kernel
theorem dM_cut_126 : decode cM_cut 126 = .ok (.iaload, 1) := by decide +kernel
theorem dM_cut_127 : decode cM_cut 127 = .ok (.iload 4, 2) := by decide +kernel
theorem dM_cut_129 : decode cM_cut 129 = .ok (.isub, 1) := by decide +kernel
theorem dM_cut_130 : decode cM_cut 130 = .ok (.aload_n 0, 1) := by decide +kernel
theorem dM_cut_131 : decode cM_cut 131 = .ok (.getfield 16, 3) := by decide +kernel
theorem dM_cut_134 : decode cM_cut 134 = .ok (.iload_n 1, 1) := by decide +kernel
theorem dM_cut_135 : decode cM_cut 135 = .ok (.iaload, 1) := by decide +kernel
theorem dM_cut_136 : decode cM_cut 136 = .ok (.iload_n 2, 1) := by decide +kernel
theorem dM_cut_137 : decode cM_cut 137 = .ok (.isub, 1) := by decide +kernel
theorem dM_cut_138 : decode cM_cut 138 = .ok (.invokevirtual 84, 3) := by decide +kernel
theorem dM_cut_141 : decode cM_cut 141 = .ok (.istore 6, 2) := by decide +kernel
theorem dM_cut_143 : decode cM_cut 143 = .ok (.aload_n 0, 1) := by decide +kernel
theorem dM_cut_144 : decode cM_cut 144 = .ok (.getfield 32, 3) := by decide +kernel
theorem dM_cut_147 : decode cM_cut 147 = .ok (.iload 5, 2) := by decide +kernel
theorem dM_cut_149 : decode cM_cut 149 = .ok (.iload_n 2, 1) := by decide +kernel
theorem dM_cut_150 : decode cM_cut 150 = .ok (.iastore, 1) := by decide +kernel
theorem dM_cut_151 : decode cM_cut 151 = .ok (.aload_n 0, 1) := by decide +kernel
theorem dM_cut_152 : decode cM_cut 152 = .ok (.getfield 32, 3) := by decide +kernel
theorem dM_cut_155 : decode cM_cut 155 = .ok (.iload 6, 2) := by decide +kernel
theorem dM_cut_157 : decode cM_cut 157 = .ok (.iload_n 2, 1) := by decide +kernel
theorem dM_cut_158 : decode cM_cut 158 = .ok (.iastore, 1) := by decide +kernel
theorem dM_cut_159 : decode cM_cut 159 = .ok (.iload 5, 2) := by decide +kernel
theorem dM_cut_161 : decode cM_cut 161 = .ok (.ireturn, 1) := by decide +kernel
theorem dM_weld_0 : decode cM_weld 0 = .ok (.aload_n 0, 1) := by decide +kernel
theorem dM_weld_1 : decode cM_weld 1 = .ok (.iload_n 1, 1) := by decide +kernel
theorem dM_weld_2 : decode cM_weld 2 = .ok (.invokevirtual 71, 3) := by decide +kernel
theorem dM_weld_5 : decode cM_weld 5 = .ok (.ifCond .eq 16, 3) := by decide +kernel
theorem dM_weld_8 : decode cM_weld 8 = .ok (.aload_n 0, 1) := by decide +kernel
theorem dM_weld_9 : decode cM_weld 9 = .ok (.iload_n 2, 1) := by decide +kernel
theorem dM_weld_10 : decode cM_weld 10 = .ok (.invokevirtual 71, 3) := by decide +kernel
theorem dM_weld_13 : decode cM_weld 13 = .ok (.ifCond .eq 8, 3) := by decide +kernel
theorem dM_weld_16 : decode cM_weld 16 = .ok (.iload_n 1, 1) := by decide +kernel
theorem dM_weld_17 : decode cM_weld 17 = .ok (.iload_n 2, 1) := by decide +kernel
theorem dM_weld_18 : decode cM_weld 18 = .ok (.if_icmp .ne 7, 3) := by decide +kernel
theorem dM_weld_21 : decode cM_weld 21 = .ok (.iconst 1, 1) := by decide +kernel
theorem dM_weld_22 : decode cM_weld 22 = .ok (.goto 4, 3) := by decide +kernel
theorem dM_weld_25 : decode cM_weld 25 = .ok (.iconst 0, 1) := by decide +kernel
theorem dM_weld_26 : decode cM_weld 26 = .ok (.istore_n 3, 1) := by decide +kernel
theorem dM_weld_27 : decode cM_weld 27 = .ok (.iload_n 3, 1) := by decide +kernel
theorem dM_weld_28 : decode cM_weld 28 = .ok (.ifCond .ne 75, 3) := by decide +kernel
theorem dM_weld_31 : decode cM_weld 31 = .ok (.aload_n 0, 1) := by decide +kernel
theorem dM_weld_32 : decode cM_weld 32 = .ok (.getfield 13, 3) := by decide +kernel
theorem dM_weld_35 : decode cM_weld 35 = .ok (.iload_n 3, 1) := by decide +kernel
theorem dM_weld_36 : decode cM_weld 36 = .ok (.ifCond .eq 7, 3) := by decide +kernel
theorem dM_weld_39 : decode cM_weld 39 = .ok (.iconst 0, 1) := by decide +kernel
theorem dM_weld_40 : decode cM_weld 40 = .ok (.goto 4, 3) := by decide +kernel
theorem dM_weld_43 : decode cM_weld 43 = .ok (.iload_n 1, 1) := by decide +kernel
theorem dM_weld_44 : decode cM_weld 44 = .ok (.iaload, 1) := by decide +kernel
theorem dM_weld_45 : decode cM_weld 45 = .ok (.ldc 91, 2) := by decide +kernel
theorem dM_weld_47 : decode cM_weld 47 = .ok (.aload_n 0, 1) := by decide +kernel
theorem dM_weld_48 : decode cM_weld 48 = .ok (.getfield 13, 3) := by decide +kernel
theorem dM_weld_51 : decode cM_weld 51 = .ok (.iload_n 3, 1) := by decide +kernel
theorem dM_weld_52 : decode cM_weld 52 = .ok (.ifCond .eq 7, 3) := by decide +kernel
theorem dM_weld_55 : decode cM_weld 55 = .ok (.iconst 0, 1) := by decide +kernel
theorem dM_weld_56 : decode cM_weld 56 = .ok (.goto 4, 3) := by decide +kernel
theorem dM_weld_59 : decode cM_weld 59 = .ok (.iload_n 2, 1) := by decide +kernel
theorem dM_weld_60 : decode cM_weld 60 = .ok (.iaload, 1) := by decide +kernel
theorem dM_weld_61 : decode cM_weld 61 = .ok (.isub, 1) := by decide +kernel
theorem dM_weld_62 : decode cM_weld 62 = .ok (.if_icmp .gt 37, 3) := by decide +kernel
theorem dM_weld_65 : decode cM_weld 65 = .ok (.aload_n 0, 1) := by decide +kernel
theorem dM_weld_66 : decode cM_weld 66 = .ok (.getfield 16, 3) := by decide +kernel
theorem dM_weld_69 : decode cM_weld 69 = .ok (.iload_n 3, 1) := by decide +kernel
theorem dM_weld_70 : decode cM_weld 70 = .ok (.ifCond .eq 7, 3) := by decide +kernel
theorem dM_weld_73 : decode cM_weld 73 = .ok (.iconst 0, 1) := by decide +kernel
theorem dM_weld_74 : decode cM_weld 74 = .ok (.goto 4, 3) := by decide +kernel
theorem dM_weld_77 : decode cM_weld 77 = .ok (.iload_n 1, 1) := by decide +kernel
theorem dM_weld_78 : decode cM_weld 78 = .ok (.iaload, 1) := by decide +kernel
theorem dM_weld_79 : decode cM_weld 79 = .ok (.ldc 91, 2) := by decide +kernel
theorem dM_weld_81 : decode cM_weld 81 = .ok (.aload_n 0, 1) := by decide +kernel
theorem dM_weld_82 : decode cM_weld 82 = .ok (.getfield 16, 3) := by decide +kernel
theorem dM_weld_85 : decode cM_weld 85 = .ok (.iload_n 3, 1) := by decide +kernel
theorem dM_weld_86 : decode cM_weld 86 = .ok (.ifCond .eq 7, 3) := by decide +kernel
theorem dM_weld_89 : decode cM_weld 89 = .ok (.iconst 0, 1) := by decide +kernel
theorem dM_weld_90 : decode cM_weld 90 = .ok (.goto 4, 3) := by decide +kernel
theorem dM_weld_93 : decode cM_weld 93 = .ok (.iload_n 2, 1) := by decide +kernel
theorem dM_weld_94 : decode cM_weld 94 = .ok (.iaload, 1) := by decide +kernel
theorem dM_weld_95 : decode cM_weld 95 = .ok (.isub, 1) := by decide +kernel
theorem dM_weld_96 : decode cM_weld 96 = .ok (.if_icmp .le 7, 3) := by decide +kernel
theorem dM_weld_99 : decode cM_weld 99 = .ok (.iconst 1, 1) := by decide +kernel
theorem dM_weld_100 : decode cM_weld 100 = .ok (.goto 4, 3) := by decide +kernel
theorem dM_weld_103 : decode cM_weld 103 = .ok (.iconst 0, 1) := by decide +kernel
theorem dM_weld_104 : decode cM_weld 104 = .ok (.istore 4, 2) := by decide +kernel
theorem dM_weld_106 : decode cM_weld 106 = .ok (.aload_n 0, 1) := by decide +kernel
theorem dM_weld_107 : decode cM_weld 107 = .ok (.iload_n 3, 1) := by decide +kernel
theorem dM_weld_108 : decode cM_weld 108 = .ok (.aload_n 0, 1) := by decide +kernel
theorem dM_weld_109 : decode cM_weld 109 = .ok (.iload_n 1, 1) := by decide +kernel
theorem dM_weld_110 : decode cM_weld 110 = .ok (.invokevirtual 88, 3) := by decide +kernel
theorem dM_weld_113 : decode cM_weld 113 = .ok (.ifCond .eq 11, 3) := by decide +kernel
theorem dM_weld_116 : decode cM_weld 116 = .ok (.aload_n 0, 1) := by decide +kernel
theorem dM_weld_117 : decode cM_weld 117 = .ok (.iload_n 2, 1) := by decide +kernel
theorem dM_weld_118 : decode cM_weld 118 = .ok (.invokevirtual 88, 3) := by decide +kernel
theorem dM_weld_121 : decode cM_weld 121 = .ok (.ifCond .ne 7, 3) := by decide +kernel
theorem dM_weld_124 : decode cM_weld 124 = .ok (.iconst 1, 1) := by decide +kernel
theorem dM_weld_125 : decode cM_weld 125 = .ok (.goto 4, 3) := by decide +kernel
theorem dM_weld_128 : decode cM_weld 128 = .ok (.iconst 0, 1) := by decide +kernel
theorem dM_weld_129 : decode cM_weld 129 = .ok (.aload_n 0, 1) := by decide +kernel
theorem dM_weld_130 : decode cM_weld 130 = .ok (.getfield 64, 3) := by decide +kernel
theorem dM_weld_133 : decode cM_weld 133 = .ok (.bipush 40, 2) := by decide +kernel
theorem dM_weld_135 : decode cM_weld 135 = .ok (.if_icmp .eq 8, 3) := by decide +kernel
theorem dM_weld_138 : decode cM_weld 138 = .ok (.iload 4, 2) := by decide +kernel
theorem dM_weld_140 : decode cM_weld 140 = .ok (.ifCond .eq 7, 3) := by decide +kernel
theorem dM_weld_143 : decode cM_weld 143 = .ok (.iconst 1, 1) := by decide +kernel
theorem dM_weld_144 : decode cM_weld 144 = .ok (.goto 4, 3) := by decide +kernel
theorem dM_weld_147 : decode cM_weld 147 = .ok (.iconst 0, 1) := by decide +kernel
theorem dM_weld_148 : decode cM_weld 148 = .ok (.iconst 0, 1) := by decide +kernel
theorem dM_weld_149 : decode cM_weld 149 = .ok (.invokevirtual 76, 3) := by decide +kernel
theorem dM_weld_152 : decode cM_weld 152 = .ok (.ifCond .eq 5, 3) := by decide +kernel
theorem dM_weld_155 : decode cM_weld 155 = .ok (.iconst 0, 1) := by decide +kernel
theorem dM_weld_156 : decode cM_weld 156 = .ok (.ireturn, 1) := by decide +kernel
theorem dM_weld_157 : decode cM_weld 157 = .ok (.aload_n 0, 1) := by decide +kernel
theorem dM_weld_158 : decode cM_weld 158 = .ok (.iconst 3, 1) := by decide +kernel
theorem dM_weld_159 : decode cM_weld 159 = .ok (.iload_n 1, 1) := by decide +kernel
theorem dM_weld_160 : decode cM_weld 160 = .ok (.aload_n 0, 1) := by decide +kernel
theorem dM_weld_161 : decode cM_weld 161 = .ok (.getfield 13, 3) := by decide +kernel
theorem dM_weld_164 : decode cM_weld 164 = .ok (.iload_n 1, 1) := by decide +kernel
theorem dM_weld_165 : decode cM_weld 165 = .ok (.iaload, 1) := by decide +kernel
theorem dM_weld_166 : decode cM_weld 166 = .ok (.aload_n 0, 1) := by decide +kernel
theorem dM_weld_167 : decode cM_weld 167 = .ok (.getfield 13, 3) := by decide +kernel
theorem dM_weld_170 : decode cM_weld 170 = .ok (.iload_n 2, 1) := by decide +kernel
theorem dM_weld_171 : decode cM_weld 171 = .ok (.iaload, 1) := by decide +kernel
theorem dM_weld_172 : decode cM_weld 172 = .ok (.iadd, 1) := by decide +kernel
theorem dM_weld_173 : decode cM_weld 173 = .ok (.aload_n 0, 1) := by decide +kernel
theorem dM_weld_174 : decode cM_weld 174 = .ok (.getfield 16, 3) := by decide +kernel
theorem dM_weld_177 : decode cM_weld 177 = .ok (.iload_n 1, 1) := by decide +kernel
theorem dM_weld_178 : decode cM_weld 178 = .ok (.iaload, 1) := by decide +kernel
theorem dM_weld_179 : decode cM_weld 179 = .ok (.aload_n 0, 1) := by decide +kernel
theorem dM_weld_180 : decode cM_weld 180 = .ok (.getfield 16, 3) := by decide +kernel
theorem dM_weld_183 : decode cM_weld 183 = .ok (.iload_n 2, 1) := by decide +kernel
theorem dM_weld_184 : decode cM_weld 184 = .ok (.iaload, 1) := by decide +kernel
theorem dM_weld_185 : decode cM_weld 185 = .ok (.iadd, 1) := by decide +kernel
theorem dM_weld_186 : decode cM_weld 186 = .ok (.invokevirtual 84, 3) := by decide +kernel
theorem dM_weld_189 : decode cM_weld 189 = .ok (.istore 5, 2) := by decide +kernel
theorem dM_weld_191 : decode cM_weld 191 = .ok (.aload_n 0, 1) := by decide +kernel
theorem dM_weld_192 : decode cM_weld 192 = .ok (.getfield 29, 3) := by decide +kernel
theorem dM_weld_195 : decode cM_weld 195 = .ok (.iload 5, 2) := by decide +kernel
theorem dM_weld_197 : decode cM_weld 197 = .ok (.iload_n 2, 1) := by decide +kernel
theorem dM_weld_198 : decode cM_weld 198 = .ok (.iastore, 1) := by decide +kernel
theorem dM_weld_199 : decode cM_weld 199 = .ok (.aload_n 0, 1) := by decide +kernel
theorem dM_weld_200 : decode cM_weld 200 = .ok (.getfield 19, 3) := by decide +kernel
theorem dM_weld_203 : decode cM_weld 203 = .ok (.iload_n 2, 1) := by decide +kernel
theorem dM_weld_204 : decode cM_weld 204 = .ok (.iconst 1, 1) := by decide +kernel
theorem dM_weld_205 : decode cM_weld 205 = .ok (.iastore, 1) := by decide +kernel
theorem dM_weld_206 : decode cM_weld 206 = .ok (.aload_n 0, 1) := by decide +kernel
theorem dM_weld_207 : decode cM_weld 207 = .ok (.getfield 41, 3) := by decide +kernel
theorem dM_weld_210 : decode cM_weld 210 = .ok (.iload 5, 2) := by decide +kernel
theorem dM_weld_212 : decode cM_weld 212 = .ok (.aload_n 0, 1) := by decide +kernel
theorem dM_weld_213 : decode cM_weld 213 = .ok (.getfield 41, 3) := by decide +kernel
theorem dM_weld_216 : decode cM_weld 216 = .ok (.iload_n 1, 1) := by decide +kernel
theorem dM_weld_217 : decode cM_weld 217 = .ok (.iaload, 1) := by decide +kernel
theorem dM_weld_218 : decode cM_weld 218 = .ok (.aload_n 0, 1) := by decide +kernel
theorem dM_weld_219 : decode cM_weld 219 = .ok (.getfield 41, 3) := by decide +kernel
theorem dM_weld_222 : decode cM_weld 222 = .ok (.iload_n 2, 1) := by decide +kernel
theorem dM_weld_223 : decode cM_weld 223 = .ok (.iaload, 1) := by decide +kernel
theorem dM_weld_224 : decode cM_weld 224 = .ok (.if_icmp .le 12, 3) := by decide +kernel
theorem dM_weld_227 : decode cM_weld 227 = .ok (.aload_n 0, 1) := by decide +kernel
theorem dM_weld_228 : decode cM_weld 228 = .ok (.getfield 41, 3) := by decide +kernel
theorem dM_weld_231 : decode cM_weld 231 = .ok (.iload_n 1, 1) := by decide +kernel
theorem dM_weld_232 : decode cM_weld 232 = .ok (.iaload, 1) := by decide +kernel
theorem dM_weld_233 : decode cM_weld 233 = .ok (.goto 9, 3) := by decide +kernel
theorem dM_weld_236 : decode cM_weld 236 = .ok (.aload_n 0, 1) := by decide +kernel
theorem dM_weld_237 : decode cM_weld 237 = .ok (.getfield 41, 3) := by decide +kernel
theorem dM_weld_240 : decode cM_weld 240 = .ok (.iload_n 2, 1) := by decide +kernel
theorem dM_weld_241 : decode cM_weld 241 = .ok (.iaload, 1) := by decide +kernel
theorem dM_weld_242 : decode cM_weld 242 = .ok (.iastore, 1) := by decide +kernel
theorem dM_weld_243 : decode cM_weld 243 = .ok (.iload 5, 2) := by decide +kernel
theorem dM_weld_245 : decode cM_weld 245 = .ok (.ireturn, 1) := by decide +kernel
theorem dM_roll_0 : decode cM_roll 0 = .ok (.aload_n 0, 1) := by decide +kernel
theorem dM_roll_1 : decode cM_roll 1 = .ok (.iload_n 1, 1) := by decide +kernel
theorem dM_roll_2 : decode cM_roll 2 = .ok (.invokevirtual 71, 3) := by decide +kernel
theorem dM_roll_5 : decode cM_roll 5 = .ok (.ifCond .ne 7, 3) := by decide +kernel
theorem dM_roll_8 : decode cM_roll 8 = .ok (.iconst 1, 1) := by decide +kernel
theorem dM_roll_9 : decode cM_roll 9 = .ok (.goto 4, 3) := by decide +kernel
theorem dM_roll_12 : decode cM_roll 12 = .ok (.iconst 0, 1) := by decide +kernel
theorem dM_roll_13 : decode cM_roll 13 = .ok (.istore 4, 2) := by decide +kernel
theorem dM_roll_15 : decode cM_roll 15 = .ok (.iload_n 2, 1) := by decide +kernel
theorem dM_roll_16 : decode cM_roll 16 = .ok (.iconst 1, 1) := by decide +kernel
theorem dM_roll_17 : decode cM_roll 17 = .ok (.bipush 20, 2) := by decide +kernel
theorem dM_roll_19 : decode cM_roll 19 = .ok (.invokestatic 67, 3) := by decide +kernel
theorem dM_roll_22 : decode cM_roll 22 = .ok (.ifCond .eq 13, 3) := by decide +kernel
theorem dM_roll_25 : decode cM_roll 25 = .ok (.iload_n 3, 1) := by decide +kernel
theorem dM_roll_26 : decode cM_roll 26 = .ok (.iconst 1, 1) := by decide +kernel
theorem dM_roll_27 : decode cM_roll 27 = .ok (.bipush 20, 2) := by decide +kernel
theorem dM_roll_29 : decode cM_roll 29 = .ok (.invokestatic 67, 3) := by decide +kernel
theorem dM_roll_32 : decode cM_roll 32 = .ok (.ifCond .ne 7, 3) := by decide +kernel
theorem dM_roll_35 : decode cM_roll 35 = .ok (.iconst 1, 1) := by decide +kernel
theorem dM_roll_36 : decode cM_roll 36 = .ok (.goto 4, 3) := by decide +kernel
theorem dM_roll_39 : decode cM_roll 39 = .ok (.iconst 0, 1) := by decide +kernel
theorem dM_roll_40 : decode cM_roll 40 = .ok (.istore 5, 2) := by decide +kernel
theorem dM_roll_42 : decode cM_roll 42 = .ok (.iload 4, 2) := by decide +kernel
theorem dM_roll_44 : decode cM_roll 44 = .ok (.ifCond .ne 8, 3) := by decide +kernel
theorem dM_roll_47 : decode cM_roll 47 = .ok (.iload 5, 2) := by decide +kernel
theorem dM_roll_49 : decode cM_roll 49 = .ok (.ifCond .eq 7, 3) := by decide +kernel
theorem dM_roll_52 : decode cM_roll 52 = .ok (.lconst 1, 1) := by decide +kernel
theorem dM_roll_53 : decode cM_roll 53 = .ok (.goto 16, 3) := by decide +kernel
theorem dM_roll_56 : decode cM_roll 56 = .ok (.aload_n 0, 1) := by decide +kernel
theorem dM_roll_57 : decode cM_roll 57 = .ok (.getfield 16, 3) := by decide +kernel
theorem dM_roll_60 : decode cM_roll 60 = .ok (.iload_n 1, 1) := by decide +kernel
theorem dM_roll_61 : decode cM_roll 61 = .ok (.iaload, 1) := by decide +kernel
theorem dM_roll_62 : decode cM_roll 62 = .ok (.i2l, 1) := by decide +kernel
theorem dM_roll_63 : decode cM_roll 63 = .ok (.iload_n 2, 1) := by decide +kernel
theorem dM_roll_64 : decode cM_roll 64 = .ok (.i2l, 1) := by decide +kernel
theorem dM_roll_65 : decode cM_roll 65 = .ok (.lmul, 1) := by decide +kernel
theorem dM_roll_66 : decode cM_roll 66 = .ok (.iload_n 3, 1) := by decide +kernel
theorem dM_roll_67 : decode cM_roll 67 = .ok (.i2l, 1) := by decide +kernel
theorem dM_roll_68 : decode cM_roll 68 = .ok (.ldiv, 1) := by decide +kernel
theorem dM_roll_69 : decode cM_roll 69 = .ok (.lstore 6, 2) := by decide +kernel
theorem dM_roll_71 : decode cM_roll 71 = .ok (.aload_n 0, 1) := by decide +kernel
theorem dM_roll_72 : decode cM_roll 72 = .ok (.getfield 64, 3) := by decide +kernel
theorem dM_roll_75 : decode cM_roll 75 = .ok (.bipush 40, 2) := by decide +kernel
theorem dM_roll_77 : decode cM_roll 77 = .ok (.if_icmp .eq 43, 3) := by decide +kernel
theorem dM_roll_80 : decode cM_roll 80 = .ok (.iload 4, 2) := by decide +kernel
theorem dM_roll_82 : decode cM_roll 82 = .ok (.ifCond .ne 22, 3) := by decide +kernel
theorem dM_roll_85 : decode cM_roll 85 = .ok (.aload_n 0, 1) := by decide +kernel
theorem dM_roll_86 : decode cM_roll 86 = .ok (.getfield 41, 3) := by decide +kernel
theorem dM_roll_89 : decode cM_roll 89 = .ok (.iload 4, 2) := by decide +kernel
theorem dM_roll_91 : decode cM_roll 91 = .ok (.ifCond .eq 7, 3) := by decide +kernel
theorem dM_roll_94 : decode cM_roll 94 = .ok (.iconst 0, 1) := by decide +kernel
theorem dM_roll_95 : decode cM_roll 95 = .ok (.goto 4, 3) := by decide +kernel
theorem dM_roll_98 : decode cM_roll 98 = .ok (.iload_n 1, 1) := by decide +kernel
theorem dM_roll_99 : decode cM_roll 99 = .ok (.iaload, 1) := by decide +kernel
theorem dM_roll_100 : decode cM_roll 100 = .ok (.iconst 3, 1) := by decide +kernel
theorem dM_roll_101 : decode cM_roll 101 = .ok (.if_icmp .eq 19, 3) := by decide +kernel
theorem dM_roll_104 : decode cM_roll 104 = .ok (.lload 6, 2) := by decide +kernel
theorem dM_roll_106 : decode cM_roll 106 = .ok (.lconst 1, 1) := by decide +kernel
theorem dM_roll_107 : decode cM_roll 107 = .ok (.lcmp, 1) := by decide +kernel
theorem dM_roll_108 : decode cM_roll 108 = .ok (.ifCond .lt 12, 3) := by decide +kernel
theorem dM_roll_111 : decode cM_roll 111 = .ok (.lload 6, 2) := by decide +kernel
theorem dM_roll_113 : decode cM_roll 113 = .ok (.ldc2_w 92, 3) := by decide +kernel
theorem dM_roll_116 : decode cM_roll 116 = .ok (.lcmp, 1) := by decide +kernel
theorem dM_roll_117 : decode cM_roll 117 = .ok (.ifCond .le 7, 3) := by decide +kernel
theorem dM_roll_120 : decode cM_roll 120 = .ok (.iconst 1, 1) := by decide +kernel
theorem dM_roll_121 : decode cM_roll 121 = .ok (.goto 4, 3) := by decide +kernel
theorem dM_roll_124 : decode cM_roll 124 = .ok (.iconst 0, 1) := by decide +kernel
theorem dM_roll_125 : decode cM_roll 125 = .ok (.istore 8, 2) := by decide +kernel
theorem dM_roll_127 : decode cM_roll 127 = .ok (.aload_n 0, 1) := by decide +kernel
theorem dM_roll_128 : decode cM_roll 128 = .ok (.iload 4, 2) := by decide +kernel
theorem dM_roll_130 : decode cM_roll 130 = .ok (.aload_n 0, 1) := by decide +kernel
theorem dM_roll_131 : decode cM_roll 131 = .ok (.iload_n 1, 1) := by decide +kernel
theorem dM_roll_132 : decode cM_roll 132 = .ok (.invokevirtual 88, 3) := by decide +kernel
theorem dM_roll_135 : decode cM_roll 135 = .ok (.ifCond .ne 7, 3) := by decide +kernel
theorem dM_roll_138 : decode cM_roll 138 = .ok (.iconst 1, 1) := by decide +kernel
theorem dM_roll_139 : decode cM_roll 139 = .ok (.goto 4, 3) := by decide +kernel
theorem dM_roll_142 : decode cM_roll 142 = .ok (.iconst 0, 1) := by decide +kernel
theorem dM_roll_143 : decode cM_roll 143 = .ok (.iload 5, 2) := by decide +kernel
theorem dM_roll_145 : decode cM_roll 145 = .ok (.iload 8, 2) := by decide +kernel
theorem dM_roll_147 : decode cM_roll 147 = .ok (.invokevirtual 76, 3) := by decide +kernel
theorem dM_roll_150 : decode cM_roll 150 = .ok (.ifCond .eq 5, 3) := by decide +kernel
theorem dM_roll_153 : decode cM_roll 153 = .ok (.iconst 0, 1) := by decide +kernel
theorem dM_roll_154 : decode cM_roll 154 = .ok (.ireturn, 1) := by decide +kernel
theorem dM_roll_155 : decode cM_roll 155 = .ok (.aload_n 0, 1) := by decide +kernel
theorem dM_roll_156 : decode cM_roll 156 = .ok (.iconst 4, 1) := by decide +kernel
theorem dM_roll_157 : decode cM_roll 157 = .ok (.iload_n 1, 1) := by decide +kernel
theorem dM_roll_158 : decode cM_roll 158 = .ok (.aload_n 0, 1) := by decide +kernel
theorem dM_roll_159 : decode cM_roll 159 = .ok (.getfield 13, 3) := by decide +kernel
theorem dM_roll_162 : decode cM_roll 162 = .ok (.iload_n 1, 1) := by decide +kernel
theorem dM_roll_163 : decode cM_roll 163 = .ok (.iaload, 1) := by decide +kernel
theorem dM_roll_164 : decode cM_roll 164 = .ok (.lload 6, 2) := by decide +kernel
theorem dM_roll_166 : decode cM_roll 166 = .ok (.l2i, 1) := by decide +kernel
theorem dM_roll_167 : decode cM_roll 167 = .ok (.invokevirtual 84, 3) := by decide +kernel
theorem dM_roll_170 : decode cM_roll 170 = .ok (.istore 9, 2) := by decide +kernel
theorem dM_roll_172 : decode cM_roll 172 = .ok (.aload_n 0, 1) := by decide +kernel
theorem dM_roll_173 : decode cM_roll 173 = .ok (.getfield 35, 3) := by decide +kernel
theorem dM_roll_176 : decode cM_roll 176 = .ok (.iload 9, 2) := by decide +kernel
theorem dM_roll_178 : decode cM_roll 178 = .ok (.iload_n 2, 1) := by decide +kernel
theorem dM_roll_179 : decode cM_roll 179 = .ok (.iastore, 1) := by decide +kernel
theorem dM_roll_180 : decode cM_roll 180 = .ok (.aload_n 0, 1) := by decide +kernel
theorem dM_roll_181 : decode cM_roll 181 = .ok (.getfield 38, 3) := by decide +kernel
theorem dM_roll_184 : decode cM_roll 184 = .ok (.iload 9, 2) := by decide +kernel
theorem dM_roll_186 : decode cM_roll 186 = .ok (.iload_n 3, 1) := by decide +kernel
theorem dM_roll_187 : decode cM_roll 187 = .ok (.iastore, 1) := by decide +kernel
theorem dM_roll_188 : decode cM_roll 188 = .ok (.aload_n 0, 1) := by decide +kernel
theorem dM_roll_189 : decode cM_roll 189 = .ok (.getfield 41, 3) := by decide +kernel
theorem dM_roll_192 : decode cM_roll 192 = .ok (.iload 9, 2) := by decide +kernel
theorem dM_roll_194 : decode cM_roll 194 = .ok (.dup2, 1) := by decide +kernel
theorem dM_roll_195 : decode cM_roll 195 = .ok (.iaload, 1) := by decide +kernel
theorem dM_roll_196 : decode cM_roll 196 = .ok (.iconst 1, 1) := by decide +kernel
theorem dM_roll_197 : decode cM_roll 197 = .ok (.iadd, 1) := by decide +kernel
theorem dM_roll_198 : decode cM_roll 198 = .ok (.iastore, 1) := by decide +kernel
theorem dM_roll_199 : decode cM_roll 199 = .ok (.iload 9, 2) := by decide +kernel
theorem dM_roll_201 : decode cM_roll 201 = .ok (.ireturn, 1) := by decide +kernel
theorem dM_slit_0 : decode cM_slit 0 = .ok (.aload_n 0, 1) := by decide +kernel
theorem dM_slit_1 : decode cM_slit 1 = .ok (.aload_n 0, 1) := by decide +kernel
theorem dM_slit_2 : decode cM_slit 2 = .ok (.iload_n 1, 1) := by decide +kernel
theorem dM_slit_3 : decode cM_slit 3 = .ok (.invokevirtual 71, 3) := by decide +kernel
theorem dM_slit_6 : decode cM_slit 6 = .ok (.ifCond .ne 7, 3) := by decide +kernel
theorem dM_slit_9 : decode cM_slit 9 = .ok (.iconst 1, 1) := by decide +kernel
theorem dM_slit_10 : decode cM_slit 10 = .ok (.goto 4, 3) := by decide +kernel
theorem dM_slit_13 : decode cM_slit 13 = .ok (.iconst 0, 1) := by decide +kernel
theorem dM_slit_14 : decode cM_slit 14 = .ok (.aload_n 0, 1) := by decide +kernel
theorem dM_slit_15 : decode cM_slit 15 = .ok (.iload_n 1, 1) := by decide +kernel
theorem dM_slit_16 : decode cM_slit 16 = .ok (.invokevirtual 88, 3) := by decide +kernel
theorem dM_slit_19 : decode cM_slit 19 = .ok (.ifCond .ne 7, 3) := by decide +kernel
theorem dM_slit_22 : decode cM_slit 22 = .ok (.iconst 1, 1) := by decide +kernel
theorem dM_slit_23 : decode cM_slit 23 = .ok (.goto 4, 3) := by decide +kernel
theorem dM_slit_26 : decode cM_slit 26 = .ok (.iconst 0, 1) := by decide +kernel
theorem dM_slit_27 : decode cM_slit 27 = .ok (.iload_n 2, 1) := by decide +kernel
theorem dM_slit_28 : decode cM_slit 28 = .ok (.iconst 2, 1) := by decide +kernel
theorem dM_slit_29 : decode cM_slit 29 = .ok (.iconst 4, 1) := by decide +kernel
theorem dM_slit_30 : decode cM_slit 30 = .ok (.invokestatic 67, 3) := by decide +kernel
theorem dM_slit_33 : decode cM_slit 33 = .ok (.ifCond .ne 7, 3) := by decide +kernel
theorem dM_slit_36 : decode cM_slit 36 = .ok (.iconst 1, 1) := by decide +kernel
theorem dM_slit_37 : decode cM_slit 37 = .ok (.goto 4, 3) := by decide +kernel
theorem dM_slit_40 : decode cM_slit 40 = .ok (.iconst 0, 1) := by decide +kernel
theorem dM_slit_41 : decode cM_slit 41 = .ok (.aload_n 0, 1) := by decide +kernel
theorem dM_slit_42 : decode cM_slit 42 = .ok (.getfield 64, 3) := by decide +kernel
theorem dM_slit_45 : decode cM_slit 45 = .ok (.iload_n 2, 1) := by decide +kernel
theorem dM_slit_46 : decode cM_slit 46 = .ok (.iadd, 1) := by decide +kernel
theorem dM_slit_47 : decode cM_slit 47 = .ok (.bipush 40, 2) := by decide +kernel
theorem dM_slit_49 : decode cM_slit 49 = .ok (.if_icmp .le 7, 3) := by decide +kernel
theorem dM_slit_52 : decode cM_slit 52 = .ok (.iconst 1, 1) := by decide +kernel
theorem dM_slit_53 : decode cM_slit 53 = .ok (.goto 4, 3) := by decide +kernel
theorem dM_slit_56 : decode cM_slit 56 = .ok (.iconst 0, 1) := by decide +kernel
theorem dM_slit_57 : decode cM_slit 57 = .ok (.invokevirtual 76, 3) := by decide +kernel
theorem dM_slit_60 : decode cM_slit 60 = .ok (.ifCond .eq 5, 3) := by decide +kernel
theorem dM_slit_63 : decode cM_slit 63 = .ok (.iconst 0, 1) := by decide +kernel
theorem dM_slit_64 : decode cM_slit 64 = .ok (.ireturn, 1) := by decide +kernel
theorem dM_slit_65 : decode cM_slit 65 = .ok (.iconst 0, 1) := by decide +kernel
theorem dM_slit_66 : decode cM_slit 66 = .ok (.istore_n 3, 1) := by decide +kernel
theorem dM_slit_67 : decode cM_slit 67 = .ok (.iload_n 3, 1) := by decide +kernel
theorem dM_slit_68 : decode cM_slit 68 = .ok (.iload_n 2, 1) := by decide +kernel
theorem dM_slit_69 : decode cM_slit 69 = .ok (.if_icmp .ge 47, 3) := by decide +kernel
theorem dM_slit_72 : decode cM_slit 72 = .ok (.aload_n 0, 1) := by decide +kernel
theorem dM_slit_73 : decode cM_slit 73 = .ok (.iconst 5, 1) := by decide +kernel
theorem dM_slit_74 : decode cM_slit 74 = .ok (.iload_n 1, 1) := by decide +kernel
theorem dM_slit_75 : decode cM_slit 75 = .ok (.aload_n 0, 1) := by decide +kernel
theorem dM_slit_76 : decode cM_slit 76 = .ok (.getfield 13, 3) := by decide +kernel
theorem dM_slit_79 : decode cM_slit 79 = .ok (.iload_n 1, 1) := by decide +kernel
theorem dM_slit_80 : decode cM_slit 80 = .ok (.iaload, 1) := by decide +kernel
theorem dM_slit_81 : decode cM_slit 81 = .ok (.iload_n 2, 1) := by decide +kernel
theorem dM_slit_82 : decode cM_slit 82 = .ok (.idiv, 1) := by decide +kernel
theorem dM_slit_83 : decode cM_slit 83 = .ok (.iload_n 3, 1) := by decide +kernel
theorem dM_slit_84 : decode cM_slit 84 = .ok (.ifCond .ne 14, 3) := by decide +kernel
theorem dM_slit_87 : decode cM_slit 87 = .ok (.aload_n 0, 1) := by decide +kernel
theorem dM_slit_88 : decode cM_slit 88 = .ok (.getfield 13, 3) := by decide +kernel
theorem dM_slit_91 : decode cM_slit 91 = .ok (.iload_n 1, 1) := by decide +kernel
theorem dM_slit_92 : decode cM_slit 92 = .ok (.iaload, 1) := by decide +kernel
theorem dM_slit_93 : decode cM_slit 93 = .ok (.iload_n 2, 1) := by decide +kernel
theorem dM_slit_94 : decode cM_slit 94 = .ok (.irem, 1) := by decide +kernel
theorem dM_slit_95 : decode cM_slit 95 = .ok (.goto 4, 3) := by decide +kernel
theorem dM_slit_98 : decode cM_slit 98 = .ok (.iconst 0, 1) := by decide +kernel
theorem dM_slit_99 : decode cM_slit 99 = .ok (.iadd, 1) := by decide +kernel
theorem dM_slit_100 : decode cM_slit 100 = .ok (.aload_n 0, 1) := by decide +kernel
theorem dM_slit_101 : decode cM_slit 101 = .ok (.getfield 16, 3) := by decide +kernel
theorem dM_slit_104 : decode cM_slit 104 = .ok (.iload_n 1, 1) := by decide +kernel
theorem dM_slit_105 : decode cM_slit 105 = .ok (.iaload, 1) := by decide +kernel
theorem dM_slit_106 : decode cM_slit 106 = .ok (.invokevirtual 84, 3) := by decide +kernel
theorem dM_slit_109 : decode cM_slit 109 = .ok (.pop, 1) := by decide +kernel
theorem dM_slit_110 : decode cM_slit 110 = .ok (.iinc 3 1, 3) := by decide +kernel
theorem dM_slit_113 : decode cM_slit 113 = .ok (.goto (-46), 3) := by decide +kernel
theorem dM_slit_116 : decode cM_slit 116 = .ok (.aload_n 0, 1) := by decide +kernel
theorem dM_slit_117 : decode cM_slit 117 = .ok (.getfield 64, 3) := by decide +kernel
theorem dM_slit_120 : decode cM_slit 120 = .ok (.iload_n 2, 1) := by decide +kernel
theorem dM_slit_121 : decode cM_slit 121 = .ok (.isub, 1) := by decide +kernel
theorem dM_slit_122 : decode cM_slit 122 = .ok (.ireturn, 1) := by decide +kernel
theorem dM_hold_0 : decode cM_hold 0 = .ok (.aload_n 0, 1) := by decide +kernel
theorem dM_hold_1 : decode cM_hold 1 = .ok (.iload_n 1, 1) := by decide +kernel
theorem dM_hold_2 : decode cM_hold 2 = .ok (.invokevirtual 71, 3) := by decide +kernel
theorem dM_hold_5 : decode cM_hold 5 = .ok (.ifCond .ne 7, 3) := by decide +kernel
theorem dM_hold_8 : decode cM_hold 8 = .ok (.iconst 1, 1) := by decide +kernel
theorem dM_hold_9 : decode cM_hold 9 = .ok (.goto 4, 3) := by decide +kernel
theorem dM_hold_12 : decode cM_hold 12 = .ok (.iconst 0, 1) := by decide +kernel
theorem dM_hold_13 : decode cM_hold 13 = .ok (.istore_n 3, 1) := by decide +kernel
theorem dM_hold_14 : decode cM_hold 14 = .ok (.aload_n 0, 1) := by decide +kernel
theorem dM_hold_15 : decode cM_hold 15 = .ok (.iload_n 3, 1) := by decide +kernel
theorem dM_hold_16 : decode cM_hold 16 = .ok (.iload_n 3, 1) := by decide +kernel
theorem dM_hold_17 : decode cM_hold 17 = .ok (.ifCond .ne 42, 3) := by decide +kernel
theorem dM_hold_20 : decode cM_hold 20 = .ok (.aload_n 0, 1) := by decide +kernel
theorem dM_hold_21 : decode cM_hold 21 = .ok (.getfield 19, 3) := by decide +kernel
theorem dM_hold_24 : decode cM_hold 24 = .ok (.iload_n 3, 1) := by decide +kernel
theorem dM_hold_25 : decode cM_hold 25 = .ok (.ifCond .eq 7, 3) := by decide +kernel
theorem dM_hold_28 : decode cM_hold 28 = .ok (.iconst 0, 1) := by decide +kernel
theorem dM_hold_29 : decode cM_hold 29 = .ok (.goto 4, 3) := by decide +kernel
theorem dM_hold_32 : decode cM_hold 32 = .ok (.iload_n 1, 1) := by decide +kernel
theorem dM_hold_33 : decode cM_hold 33 = .ok (.iaload, 1) := by decide +kernel
theorem dM_hold_34 : decode cM_hold 34 = .ok (.ifCond .ne 21, 3) := by decide +kernel
theorem dM_hold_37 : decode cM_hold 37 = .ok (.aload_n 0, 1) := by decide +kernel
theorem dM_hold_38 : decode cM_hold 38 = .ok (.getfield 22, 3) := by decide +kernel
theorem dM_hold_41 : decode cM_hold 41 = .ok (.iload_n 3, 1) := by decide +kernel
theorem dM_hold_42 : decode cM_hold 42 = .ok (.ifCond .eq 7, 3) := by decide +kernel
theorem dM_hold_45 : decode cM_hold 45 = .ok (.iconst 0, 1) := by decide +kernel
theorem dM_hold_46 : decode cM_hold 46 = .ok (.goto 4, 3) := by decide +kernel
theorem dM_hold_49 : decode cM_hold 49 = .ok (.iload_n 1, 1) := by decide +kernel
theorem dM_hold_50 : decode cM_hold 50 = .ok (.baload, 1) := by decide +kernel
theorem dM_hold_51 : decode cM_hold 51 = .ok (.iload_n 2, 1) := by decide +kernel
theorem dM_hold_52 : decode cM_hold 52 = .ok (.if_icmp .ne 7, 3) := by decide +kernel
theorem dM_hold_55 : decode cM_hold 55 = .ok (.iconst 1, 1) := by decide +kernel
theorem dM_hold_56 : decode cM_hold 56 = .ok (.goto 4, 3) := by decide +kernel
theorem dM_hold_59 : decode cM_hold 59 = .ok (.iconst 0, 1) := by decide +kernel
theorem dM_hold_60 : decode cM_hold 60 = .ok (.iconst 0, 1) := by decide +kernel
theorem dM_hold_61 : decode cM_hold 61 = .ok (.iconst 0, 1) := by decide +kernel
theorem dM_hold_62 : decode cM_hold 62 = .ok (.invokevirtual 76, 3) := by decide +kernel
theorem dM_hold_65 : decode cM_hold 65 = .ok (.ifCond .eq 4, 3) := by decide +kernel
theorem dM_hold_68 : decode cM_hold 68 = .ok (.return_, 1) := by decide +kernel
theorem dM_hold_69 : decode cM_hold 69 = .ok (.aload_n 0, 1) := by decide +kernel
theorem dM_hold_70 : decode cM_hold 70 = .ok (.getfield 22, 3) := by decide +kernel
theorem dM_hold_73 : decode cM_hold 73 = .ok (.iload_n 1, 1) := by decide +kernel
theorem dM_hold_74 : decode cM_hold 74 = .ok (.iload_n 2, 1) := by decide +kernel
theorem dM_hold_75 : decode cM_hold 75 = .ok (.bastore, 1) := by decide +kernel
theorem dM_hold_76 : decode cM_hold 76 = .ok (.return_, 1) := by decide +kernel
theorem dM_scrap_0 : decode cM_scrap 0 = .ok (.aload_n 0, 1) := by decide +kernel
theorem dM_scrap_1 : decode cM_scrap 1 = .ok (.aload_n 0, 1) := by decide +kernel
theorem dM_scrap_2 : decode cM_scrap 2 = .ok (.iload_n 1, 1) := by decide +kernel
theorem dM_scrap_3 : decode cM_scrap 3 = .ok (.invokevirtual 71, 3) := by decide +kernel
theorem dM_scrap_6 : decode cM_scrap 6 = .ok (.ifCond .ne 7, 3) := by decide +kernel
theorem dM_scrap_9 : decode cM_scrap 9 = .ok (.iconst 1, 1) := by decide +kernel
theorem dM_scrap_10 : decode cM_scrap 10 = .ok (.goto 4, 3) := by decide +kernel
theorem dM_scrap_13 : decode cM_scrap 13 = .ok (.iconst 0, 1) := by decide +kernel
theorem dM_scrap_14 : decode cM_scrap 14 = .ok (.aload_n 0, 1) := by decide +kernel
theorem dM_scrap_15 : decode cM_scrap 15 = .ok (.iload_n 1, 1) := by decide +kernel
theorem dM_scrap_16 : decode cM_scrap 16 = .ok (.invokevirtual 88, 3) := by decide +kernel
theorem dM_scrap_19 : decode cM_scrap 19 = .ok (.ifCond .ne 7, 3) := by decide +kernel
theorem dM_scrap_22 : decode cM_scrap 22 = .ok (.iconst 1, 1) := by decide +kernel
theorem dM_scrap_23 : decode cM_scrap 23 = .ok (.goto 4, 3) := by decide +kernel
theorem dM_scrap_26 : decode cM_scrap 26 = .ok (.iconst 0, 1) := by decide +kernel
theorem dM_scrap_27 : decode cM_scrap 27 = .ok (.iconst 0, 1) := by decide +kernel
theorem dM_scrap_28 : decode cM_scrap 28 = .ok (.iconst 0, 1) := by decide +kernel
theorem dM_scrap_29 : decode cM_scrap 29 = .ok (.invokevirtual 76, 3) := by decide +kernel
theorem dM_scrap_32 : decode cM_scrap 32 = .ok (.ifCond .eq 5, 3) := by decide +kernel
theorem dM_scrap_35 : decode cM_scrap 35 = .ok (.iconst 0, 1) := by decide +kernel
theorem dM_scrap_36 : decode cM_scrap 36 = .ok (.ireturn, 1) := by decide +kernel
theorem dM_scrap_37 : decode cM_scrap 37 = .ok (.aload_n 0, 1) := by decide +kernel
theorem dM_scrap_38 : decode cM_scrap 38 = .ok (.getfield 19, 3) := by decide +kernel
theorem dM_scrap_41 : decode cM_scrap 41 = .ok (.iload_n 1, 1) := by decide +kernel
theorem dM_scrap_42 : decode cM_scrap 42 = .ok (.iconst 2, 1) := by decide +kernel
theorem dM_scrap_43 : decode cM_scrap 43 = .ok (.iastore, 1) := by decide +kernel
theorem dM_scrap_44 : decode cM_scrap 44 = .ok (.aload_n 0, 1) := by decide +kernel
theorem dM_scrap_45 : decode cM_scrap 45 = .ok (.dup, 1) := by decide +kernel
theorem dM_scrap_46 : decode cM_scrap 46 = .ok (.getfield 94, 3) := by decide +kernel
theorem dM_scrap_49 : decode cM_scrap 49 = .ok (.aload_n 0, 1) := by decide +kernel
theorem dM_scrap_50 : decode cM_scrap 50 = .ok (.getfield 13, 3) := by decide +kernel
theorem dM_scrap_53 : decode cM_scrap 53 = .ok (.iload_n 1, 1) := by decide +kernel
theorem dM_scrap_54 : decode cM_scrap 54 = .ok (.iaload, 1) := by decide +kernel
theorem dM_scrap_55 : decode cM_scrap 55 = .ok (.iadd, 1) := by decide +kernel
theorem dM_scrap_56 : decode cM_scrap 56 = .ok (.putfield 94, 3) := by decide +kernel
theorem dM_scrap_59 : decode cM_scrap 59 = .ok (.aload_n 0, 1) := by decide +kernel
theorem dM_scrap_60 : decode cM_scrap 60 = .ok (.getfield 94, 3) := by decide +kernel
theorem dM_scrap_63 : decode cM_scrap 63 = .ok (.ireturn, 1) := by decide +kernel
theorem dM_back_0 : decode cM_back 0 = .ok (.iload_n 1, 1) := by decide +kernel
theorem dM_back_1 : decode cM_back 1 = .ok (.iconst 1, 1) := by decide +kernel
theorem dM_back_2 : decode cM_back 2 = .ok (.bipush 100, 2) := by decide +kernel
theorem dM_back_4 : decode cM_back 4 = .ok (.invokestatic 67, 3) := by decide +kernel
theorem dM_back_7 : decode cM_back 7 = .ok (.ifCond .eq 13, 3) := by decide +kernel
theorem dM_back_10 : decode cM_back 10 = .ok (.iload_n 2, 1) := by decide +kernel
theorem dM_back_11 : decode cM_back 11 = .ok (.iconst 1, 1) := by decide +kernel
theorem dM_back_12 : decode cM_back 12 = .ok (.ldc 75, 2) := by decide +kernel
theorem dM_back_14 : decode cM_back 14 = .ok (.invokestatic 67, 3) := by decide +kernel
theorem dM_back_17 : decode cM_back 17 = .ok (.ifCond .ne 7, 3) := by decide +kernel
theorem dM_back_20 : decode cM_back 20 = .ok (.iconst 1, 1) := by decide +kernel
theorem dM_back_21 : decode cM_back 21 = .ok (.goto 4, 3) := by decide +kernel
theorem dM_back_24 : decode cM_back 24 = .ok (.iconst 0, 1) := by decide +kernel
theorem dM_back_25 : decode cM_back 25 = .ok (.istore_n 3, 1) := by decide +kernel
theorem dM_back_26 : decode cM_back 26 = .ok (.iload_n 3, 1) := by decide +kernel
theorem dM_back_27 : decode cM_back 27 = .ok (.ifCond .eq 7, 3) := by decide +kernel
theorem dM_back_30 : decode cM_back 30 = .ok (.iconst 1, 1) := by decide +kernel
theorem dM_back_31 : decode cM_back 31 = .ok (.goto 16, 3) := by decide +kernel
theorem dM_back_34 : decode cM_back 34 = .ok (.aload_n 0, 1) := by decide +kernel
theorem dM_back_35 : decode cM_back 35 = .ok (.getfield 94, 3) := by decide +kernel
theorem dM_back_38 : decode cM_back 38 = .ok (.i2l, 1) := by decide +kernel
theorem dM_back_39 : decode cM_back 39 = .ok (.iload_n 1, 1) := by decide +kernel
theorem dM_back_40 : decode cM_back 40 = .ok (.i2l, 1) := by decide +kernel
theorem dM_back_41 : decode cM_back 41 = .ok (.lmul, 1) := by decide +kernel
theorem dM_back_42 : decode cM_back 42 = .ok (.ldc2_w 97, 3) := by decide +kernel
theorem dM_back_45 : decode cM_back 45 = .ok (.ldiv, 1) := by decide +kernel
theorem dM_back_46 : decode cM_back 46 = .ok (.l2i, 1) := by decide +kernel
theorem dM_back_47 : decode cM_back 47 = .ok (.istore 4, 2) := by decide +kernel
theorem dM_back_49 : decode cM_back 49 = .ok (.aload_n 0, 1) := by decide +kernel
theorem dM_back_50 : decode cM_back 50 = .ok (.iload_n 3, 1) := by decide +kernel
theorem dM_back_51 : decode cM_back 51 = .ok (.iload 4, 2) := by decide +kernel
theorem dM_back_53 : decode cM_back 53 = .ok (.iconst 1, 1) := by decide +kernel
theorem dM_back_54 : decode cM_back 54 = .ok (.if_icmp .lt 12, 3) := by decide +kernel
theorem dM_back_57 : decode cM_back 57 = .ok (.aload_n 0, 1) := by decide +kernel
theorem dM_back_58 : decode cM_back 58 = .ok (.getfield 64, 3) := by decide +kernel
theorem dM_back_61 : decode cM_back 61 = .ok (.bipush 40, 2) := by decide +kernel
theorem dM_back_63 : decode cM_back 63 = .ok (.if_icmp .ne 7, 3) := by decide +kernel
theorem dM_back_66 : decode cM_back 66 = .ok (.iconst 1, 1) := by decide +kernel
theorem dM_back_67 : decode cM_back 67 = .ok (.goto 4, 3) := by decide +kernel
theorem dM_back_70 : decode cM_back 70 = .ok (.iconst 0, 1) := by decide +kernel
theorem dM_back_71 : decode cM_back 71 = .ok (.iconst 0, 1) := by decide +kernel
theorem dM_back_72 : decode cM_back 72 = .ok (.iconst 0, 1) := by decide +kernel
theorem dM_back_73 : decode cM_back 73 = .ok (.invokevirtual 76, 3) := by decide +kernel
theorem dM_back_76 : decode cM_back 76 = .ok (.ifCond .eq 5, 3) := by decide +kernel
theorem dM_back_79 : decode cM_back 79 = .ok (.iconst 0, 1) := by decide +kernel
theorem dM_back_80 : decode cM_back 80 = .ok (.ireturn, 1) := by decide +kernel
theorem dM_back_81 : decode cM_back 81 = .ok (.aload_n 0, 1) := by decide +kernel
theorem dM_back_82 : decode cM_back 82 = .ok (.dup, 1) := by decide +kernel
theorem dM_back_83 : decode cM_back 83 = .ok (.getfield 94, 3) := by decide +kernel
theorem dM_back_86 : decode cM_back 86 = .ok (.iload 4, 2) := by decide +kernel
theorem dM_back_88 : decode cM_back 88 = .ok (.isub, 1) := by decide +kernel
theorem dM_back_89 : decode cM_back 89 = .ok (.putfield 94, 3) := by decide +kernel
theorem dM_back_92 : decode cM_back 92 = .ok (.aload_n 0, 1) := by decide +kernel
theorem dM_back_93 : decode cM_back 93 = .ok (.iconst 0, 1) := by decide +kernel
theorem dM_back_94 : decode cM_back 94 = .ok (.iconst (-1), 1) := by decide +kernel
theorem dM_back_95 : decode cM_back 95 = .ok (.iload 4, 2) := by decide +kernel
theorem dM_back_97 : decode cM_back 97 = .ok (.iload_n 2, 1) := by decide +kernel
theorem dM_back_98 : decode cM_back 98 = .ok (.invokevirtual 84, 3) := by decide +kernel
theorem dM_back_101 : decode cM_back 101 = .ok (.ireturn, 1) := by decide +kernel
theorem dM_at_0 : decode cM_at 0 = .ok (.aload_n 0, 1) := by decide +kernel
theorem dM_at_1 : decode cM_at 1 = .ok (.aload_n 0, 1) := by decide +kernel
theorem dM_at_2 : decode cM_at 2 = .ok (.iload_n 1, 1) := by decide +kernel
theorem dM_at_3 : decode cM_at 3 = .ok (.invokevirtual 71, 3) := by decide +kernel
theorem dM_at_6 : decode cM_at 6 = .ok (.ifCond .eq 13, 3) := by decide +kernel
theorem dM_at_9 : decode cM_at 9 = .ok (.iload_n 2, 1) := by decide +kernel
theorem dM_at_10 : decode cM_at 10 = .ok (.iconst 0, 1) := by decide +kernel
theorem dM_at_11 : decode cM_at 11 = .ok (.bipush 6, 2) := by decide +kernel
theorem dM_at_13 : decode cM_at 13 = .ok (.invokestatic 67, 3) := by decide +kernel
theorem dM_at_16 : decode cM_at 16 = .ok (.ifCond .ne 7, 3) := by decide +kernel
theorem dM_at_19 : decode cM_at 19 = .ok (.iconst 1, 1) := by decide +kernel
theorem dM_at_20 : decode cM_at 20 = .ok (.goto 4, 3) := by decide +kernel
theorem dM_at_23 : decode cM_at 23 = .ok (.iconst 0, 1) := by decide +kernel
theorem dM_at_24 : decode cM_at 24 = .ok (.iconst 0, 1) := by decide +kernel
theorem dM_at_25 : decode cM_at 25 = .ok (.iconst 0, 1) := by decide +kernel
theorem dM_at_26 : decode cM_at 26 = .ok (.iconst 0, 1) := by decide +kernel
theorem dM_at_27 : decode cM_at 27 = .ok (.invokevirtual 76, 3) := by decide +kernel
theorem dM_at_30 : decode cM_at 30 = .ok (.ifCond .eq 5, 3) := by decide +kernel
theorem dM_at_33 : decode cM_at 33 = .ok (.iconst 0, 1) := by decide +kernel
theorem dM_at_34 : decode cM_at 34 = .ok (.ireturn, 1) := by decide +kernel
theorem dM_at_35 : decode cM_at 35 = .ok (.iload_n 2, 1) := by decide +kernel
theorem dM_at_36 : decode cM_at 36 = .ok (.iconst 3, 1) := by decide +kernel
theorem dM_at_37 : decode cM_at 37 = .ok (.if_icmp .ge 37, 3) := by decide +kernel
theorem dM_at_40 : decode cM_at 40 = .ok (.iload_n 2, 1) := by decide +kernel
theorem dM_at_41 : decode cM_at 41 = .ok (.ifCond .ne 12, 3) := by decide +kernel
theorem dM_at_44 : decode cM_at 44 = .ok (.aload_n 0, 1) := by decide +kernel
theorem dM_at_45 : decode cM_at 45 = .ok (.getfield 13, 3) := by decide +kernel
theorem dM_at_48 : decode cM_at 48 = .ok (.iload_n 1, 1) := by decide +kernel
theorem dM_at_49 : decode cM_at 49 = .ok (.iaload, 1) := by decide +kernel
theorem dM_at_50 : decode cM_at 50 = .ok (.goto 23, 3) := by decide +kernel
theorem dM_at_53 : decode cM_at 53 = .ok (.iload_n 2, 1) := by decide +kernel
theorem dM_at_54 : decode cM_at 54 = .ok (.iconst 1, 1) := by decide +kernel
theorem dM_at_55 : decode cM_at 55 = .ok (.if_icmp .ne 12, 3) := by decide +kernel
theorem dM_at_58 : decode cM_at 58 = .ok (.aload_n 0, 1) := by decide +kernel
theorem dM_at_59 : decode cM_at 59 = .ok (.getfield 16, 3) := by decide +kernel
theorem dM_at_62 : decode cM_at 62 = .ok (.iload_n 1, 1) := by decide +kernel
theorem dM_at_63 : decode cM_at 63 = .ok (.iaload, 1) := by decide +kernel
theorem dM_at_64 : decode cM_at 64 = .ok (.goto 9, 3) := by decide +kernel
theorem dM_at_67 : decode cM_at 67 = .ok (.aload_n 0, 1) := by decide +kernel
theorem dM_at_68 : decode cM_at 68 = .ok (.getfield 19, 3) := by decide +kernel
theorem dM_at_71 : decode cM_at 71 = .ok (.iload_n 1, 1) := by decide +kernel
theorem dM_at_72 : decode cM_at 72 = .ok (.iaload, 1) := by decide +kernel
theorem dM_at_73 : decode cM_at 73 = .ok (.ireturn, 1) := by decide +kernel
theorem dM_at_74 : decode cM_at 74 = .ok (.iload_n 2, 1) := by decide +kernel
theorem dM_at_75 : decode cM_at 75 = .ok (.iconst 3, 1) := by decide +kernel
theorem dM_at_76 : decode cM_at 76 = .ok (.if_icmp .ne 20, 3) := by decide +kernel
theorem dM_at_79 : decode cM_at 79 = .ok (.aload_n 0, 1) := by decide +kernel
theorem dM_at_80 : decode cM_at 80 = .ok (.getfield 22, 3) := by decide +kernel
theorem dM_at_83 : decode cM_at 83 = .ok (.iload_n 1, 1) := by decide +kernel
theorem dM_at_84 : decode cM_at 84 = .ok (.baload, 1) := by decide +kernel
theorem dM_at_85 : decode cM_at 85 = .ok (.ifCond .eq 7, 3) := by decide +kernel
theorem dM_at_88 : decode cM_at 88 = .ok (.iconst 1, 1) := by decide +kernel
theorem dM_at_89 : decode cM_at 89 = .ok (.goto 41, 3) := by decide +kernel
theorem dM_at_92 : decode cM_at 92 = .ok (.iconst 0, 1) := by decide +kernel
theorem dM_at_93 : decode cM_at 93 = .ok (.goto 37, 3) := by decide +kernel
theorem dM_at_96 : decode cM_at 96 = .ok (.iload_n 2, 1) := by decide +kernel
theorem dM_at_97 : decode cM_at 97 = .ok (.iconst 4, 1) := by decide +kernel
theorem dM_at_98 : decode cM_at 98 = .ok (.if_icmp .ne 12, 3) := by decide +kernel
theorem dM_at_101 : decode cM_at 101 = .ok (.aload_n 0, 1) := by decide +kernel
theorem dM_at_102 : decode cM_at 102 = .ok (.getfield 26, 3) := by decide +kernel
theorem dM_at_105 : decode cM_at 105 = .ok (.iload_n 1, 1) := by decide +kernel
theorem dM_at_106 : decode cM_at 106 = .ok (.iaload, 1) := by decide +kernel
theorem dM_at_107 : decode cM_at 107 = .ok (.goto 23, 3) := by decide +kernel
theorem dM_at_110 : decode cM_at 110 = .ok (.iload_n 2, 1) := by decide +kernel
theorem dM_at_111 : decode cM_at 111 = .ok (.iconst 5, 1) := by decide +kernel
theorem dM_at_112 : decode cM_at 112 = .ok (.if_icmp .ne 12, 3) := by decide +kernel
theorem dM_at_115 : decode cM_at 115 = .ok (.aload_n 0, 1) := by decide +kernel
theorem dM_at_116 : decode cM_at 116 = .ok (.getfield 29, 3) := by decide +kernel
theorem dM_at_119 : decode cM_at 119 = .ok (.iload_n 1, 1) := by decide +kernel
theorem dM_at_120 : decode cM_at 120 = .ok (.iaload, 1) := by decide +kernel
theorem dM_at_121 : decode cM_at 121 = .ok (.goto 9, 3) := by decide +kernel
theorem dM_at_124 : decode cM_at 124 = .ok (.aload_n 0, 1) := by decide +kernel
theorem dM_at_125 : decode cM_at 125 = .ok (.getfield 41, 3) := by decide +kernel
theorem dM_at_128 : decode cM_at 128 = .ok (.iload_n 1, 1) := by decide +kernel
theorem dM_at_129 : decode cM_at 129 = .ok (.iaload, 1) := by decide +kernel
theorem dM_at_130 : decode cM_at 130 = .ok (.ireturn, 1) := by decide +kernel
theorem dM_lowest_0 : decode cM_lowest 0 = .ok (.aload_n 0, 1) := by decide +kernel
theorem dM_lowest_1 : decode cM_lowest 1 = .ok (.getfield 99, 3) := by decide +kernel
theorem dM_lowest_4 : decode cM_lowest 4 = .ok (.lstore_n 1, 1) := by decide +kernel
theorem dM_lowest_5 : decode cM_lowest 5 = .ok (.aload_n 0, 1) := by decide +kernel
theorem dM_lowest_6 : decode cM_lowest 6 = .ok (.getfield 102, 3) := by decide +kernel
theorem dM_lowest_9 : decode cM_lowest 9 = .ok (.lstore_n 3, 1) := by decide +kernel
theorem dM_lowest_10 : decode cM_lowest 10 = .ok (.lload_n 3, 1) := by decide +kernel
theorem dM_lowest_11 : decode cM_lowest 11 = .ok (.lconst 0, 1) := by decide +kernel
theorem dM_lowest_12 : decode cM_lowest 12 = .ok (.lcmp, 1) := by decide +kernel
theorem dM_lowest_13 : decode cM_lowest 13 = .ok (.ifCond .le 16, 3) := by decide +kernel
theorem dM_lowest_16 : decode cM_lowest 16 = .ok (.lload_n 1, 1) := by decide +kernel
theorem dM_lowest_17 : decode cM_lowest 17 = .ok (.lload_n 3, 1) := by decide +kernel
theorem dM_lowest_18 : decode cM_lowest 18 = .ok (.lrem, 1) := by decide +kernel
theorem dM_lowest_19 : decode cM_lowest 19 = .ok (.lstore 5, 2) := by decide +kernel
theorem dM_lowest_21 : decode cM_lowest 21 = .ok (.lload_n 3, 1) := by decide +kernel
theorem dM_lowest_22 : decode cM_lowest 22 = .ok (.lstore_n 1, 1) := by decide +kernel
theorem dM_lowest_23 : decode cM_lowest 23 = .ok (.lload 5, 2) := by decide +kernel
theorem dM_lowest_25 : decode cM_lowest 25 = .ok (.lstore_n 3, 1) := by decide +kernel
theorem dM_lowest_26 : decode cM_lowest 26 = .ok (.goto (-16), 3) := by decide +kernel
theorem dM_lowest_29 : decode cM_lowest 29 = .ok (.aload_n 0, 1) := by decide +kernel
theorem dM_lowest_30 : decode cM_lowest 30 = .ok (.aload_n 0, 1) := by decide +kernel
theorem dM_lowest_31 : decode cM_lowest 31 = .ok (.getfield 99, 3) := by decide +kernel
theorem dM_lowest_34 : decode cM_lowest 34 = .ok (.lload_n 1, 1) := by decide +kernel
theorem dM_lowest_35 : decode cM_lowest 35 = .ok (.ldiv, 1) := by decide +kernel
theorem dM_lowest_36 : decode cM_lowest 36 = .ok (.putfield 99, 3) := by decide +kernel
theorem dM_lowest_39 : decode cM_lowest 39 = .ok (.aload_n 0, 1) := by decide +kernel
theorem dM_lowest_40 : decode cM_lowest 40 = .ok (.aload_n 0, 1) := by decide +kernel
theorem dM_lowest_41 : decode cM_lowest 41 = .ok (.getfield 102, 3) := by decide +kernel
theorem dM_lowest_44 : decode cM_lowest 44 = .ok (.lload_n 1, 1) := by decide +kernel
theorem dM_lowest_45 : decode cM_lowest 45 = .ok (.ldiv, 1) := by decide +kernel
theorem dM_lowest_46 : decode cM_lowest 46 = .ok (.putfield 102, 3) := by decide +kernel
theorem dM_lowest_49 : decode cM_lowest 49 = .ok (.return_, 1) := by decide +kernel
theorem dM_goBack_0 : decode cM_goBack 0 = .ok (.iload_n 1, 1) := by decide +kernel
theorem dM_goBack_1 : decode cM_goBack 1 = .ok (.istore_n 3, 1) := by decide +kernel
theorem dM_goBack_2 : decode cM_goBack 2 = .ok (.aload_n 0, 1) := by decide +kernel
theorem dM_goBack_3 : decode cM_goBack 3 = .ok (.iload_n 2, 1) := by decide +kernel
theorem dM_goBack_4 : decode cM_goBack 4 = .ok (.i2l, 1) := by decide +kernel
theorem dM_goBack_5 : decode cM_goBack 5 = .ok (.putfield 99, 3) := by decide +kernel
theorem dM_goBack_8 : decode cM_goBack 8 = .ok (.aload_n 0, 1) := by decide +kernel
theorem dM_goBack_9 : decode cM_goBack 9 = .ok (.lconst 1, 1) := by decide +kernel
theorem dM_goBack_10 : decode cM_goBack 10 = .ok (.putfield 102, 3) := by decide +kernel
theorem dM_goBack_13 : decode cM_goBack 13 = .ok (.aload_n 0, 1) := by decide +kernel
theorem dM_goBack_14 : decode cM_goBack 14 = .ok (.getfield 7, 3) := by decide +kernel
theorem dM_goBack_17 : decode cM_goBack 17 = .ok (.iload_n 3, 1) := by decide +kernel
theorem dM_goBack_18 : decode cM_goBack 18 = .ok (.iaload, 1) := by decide +kernel
theorem dM_goBack_19 : decode cM_goBack 19 = .ok (.ifCond .eq 155, 3) := by decide +kernel
theorem dM_goBack_22 : decode cM_goBack 22 = .ok (.aload_n 0, 1) := by decide +kernel
theorem dM_goBack_23 : decode cM_goBack 23 = .ok (.getfield 26, 3) := by decide +kernel
theorem dM_goBack_26 : decode cM_goBack 26 = .ok (.iload_n 3, 1) := by decide +kernel
theorem dM_goBack_27 : decode cM_goBack 27 = .ok (.iaload, 1) := by decide +kernel
theorem dM_goBack_28 : decode cM_goBack 28 = .ok (.istore 4, 2) := by decide +kernel
theorem dM_goBack_30 : decode cM_goBack 30 = .ok (.aload_n 0, 1) := by decide +kernel
theorem dM_goBack_31 : decode cM_goBack 31 = .ok (.getfield 7, 3) := by decide +kernel
theorem dM_goBack_34 : decode cM_goBack 34 = .ok (.iload_n 3, 1) := by decide +kernel
theorem dM_goBack_35 : decode cM_goBack 35 = .ok (.iaload, 1) := by decide +kernel
theorem dM_goBack_36 : decode cM_goBack 36 = .ok (.iconst 2, 1) := by decide +kernel
theorem dM_goBack_37 : decode cM_goBack 37 = .ok (.if_icmp .ne 24, 3) := by decide +kernel
theorem dM_goBack_40 : decode cM_goBack 40 = .ok (.aload_n 0, 1) := by decide +kernel
theorem dM_goBack_41 : decode cM_goBack 41 = .ok (.aload_n 0, 1) := by decide +kernel
theorem dM_goBack_42 : decode cM_goBack 42 = .ok (.getfield 99, 3) := by decide +kernel
theorem dM_goBack_45 : decode cM_goBack 45 = .ok (.aload_n 0, 1) := by decide +kernel
theorem dM_goBack_46 : decode cM_goBack 46 = .ok (.getfield 32, 3) := by decide +kernel
theorem dM_goBack_49 : decode cM_goBack 49 = .ok (.iload_n 3, 1) := by decide +kernel
theorem dM_goBack_50 : decode cM_goBack 50 = .ok (.iaload, 1) := by decide +kernel
theorem dM_goBack_51 : decode cM_goBack 51 = .ok (.i2l, 1) := by decide +kernel
theorem dM_goBack_52 : decode cM_goBack 52 = .ok (.aload_n 0, 1) := by decide +kernel
theorem dM_goBack_53 : decode cM_goBack 53 = .ok (.getfield 102, 3) := by decide +kernel
theorem dM_goBack_56 : decode cM_goBack 56 = .ok (.lmul, 1) := by decide +kernel
theorem dM_goBack_57 : decode cM_goBack 57 = .ok (.ladd, 1) := by decide +kernel
theorem dM_goBack_58 : decode cM_goBack 58 = .ok (.putfield 99, 3) := by decide +kernel
theorem dM_goBack_61 : decode cM_goBack 61 = .ok (.aload_n 0, 1) := by decide +kernel
theorem dM_goBack_62 : decode cM_goBack 62 = .ok (.getfield 7, 3) := by decide +kernel
theorem dM_goBack_65 : decode cM_goBack 65 = .ok (.iload_n 3, 1) := by decide +kernel
theorem dM_goBack_66 : decode cM_goBack 66 = .ok (.iaload, 1) := by decide +kernel
theorem dM_goBack_67 : decode cM_goBack 67 = .ok (.iconst 4, 1) := by decide +kernel
theorem dM_goBack_68 : decode cM_goBack 68 = .ok (.if_icmp .ne 35, 3) := by decide +kernel
theorem dM_goBack_71 : decode cM_goBack 71 = .ok (.aload_n 0, 1) := by decide +kernel
theorem dM_goBack_72 : decode cM_goBack 72 = .ok (.aload_n 0, 1) := by decide +kernel
theorem dM_goBack_73 : decode cM_goBack 73 = .ok (.getfield 99, 3) := by decide +kernel
theorem dM_goBack_76 : decode cM_goBack 76 = .ok (.aload_n 0, 1) := by decide +kernel
theorem dM_goBack_77 : decode cM_goBack 77 = .ok (.getfield 38, 3) := by decide +kernel
theorem dM_goBack_80 : decode cM_goBack 80 = .ok (.iload_n 3, 1) := by decide +kernel
theorem dM_goBack_81 : decode cM_goBack 81 = .ok (.iaload, 1) := by decide +kernel
theorem dM_goBack_82 : decode cM_goBack 82 = .ok (.i2l, 1) := by decide +kernel
theorem dM_goBack_83 : decode cM_goBack 83 = .ok (.lmul, 1) := by decide +kernel
theorem dM_goBack_84 : decode cM_goBack 84 = .ok (.putfield 99, 3) := by decide +kernel
theorem dM_goBack_87 : decode cM_goBack 87 = .ok (.aload_n 0, 1) := by decide +kernel
theorem dM_goBack_88 : decode cM_goBack 88 = .ok (.aload_n 0, 1) := by decide +kernel
theorem dM_goBack_89 : decode cM_goBack 89 = .ok (.getfield 102, 3) := by decide +kernel
theorem dM_goBack_92 : decode cM_goBack 92 = .ok (.aload_n 0, 1) := by decide +kernel
theorem dM_goBack_93 : decode cM_goBack 93 = .ok (.getfield 35, 3) := by decide +kernel
theorem dM_goBack_96 : decode cM_goBack 96 = .ok (.iload_n 3, 1) := by decide +kernel
theorem dM_goBack_97 : decode cM_goBack 97 = .ok (.iaload, 1) := by decide +kernel
theorem dM_goBack_98 : decode cM_goBack 98 = .ok (.i2l, 1) := by decide +kernel
theorem dM_goBack_99 : decode cM_goBack 99 = .ok (.lmul, 1) := by decide +kernel
theorem dM_goBack_100 : decode cM_goBack 100 = .ok (.putfield 102, 3) := by decide +kernel
theorem dM_goBack_103 : decode cM_goBack 103 = .ok (.aload_n 0, 1) := by decide +kernel
theorem dM_goBack_104 : decode cM_goBack 104 = .ok (.getfield 7, 3) := by decide +kernel
theorem dM_goBack_107 : decode cM_goBack 107 = .ok (.iload_n 3, 1) := by decide +kernel
theorem dM_goBack_108 : decode cM_goBack 108 = .ok (.iaload, 1) := by decide +kernel
theorem dM_goBack_109 : decode cM_goBack 109 = .ok (.iconst 3, 1) := by decide +kernel
theorem dM_goBack_110 : decode cM_goBack 110 = .ok (.if_icmp .ne 54, 3) := by decide +kernel
theorem dM_goBack_113 : decode cM_goBack 113 = .ok (.aload_n 0, 1) := by decide +kernel
theorem dM_goBack_114 : decode cM_goBack 114 = .ok (.getfield 99, 3) := by decide +kernel
theorem dM_goBack_117 : decode cM_goBack 117 = .ok (.aload_n 0, 1) := by decide +kernel
theorem dM_goBack_118 : decode cM_goBack 118 = .ok (.getfield 16, 3) := by decide +kernel
theorem dM_goBack_121 : decode cM_goBack 121 = .ok (.iload 4, 2) := by decide +kernel
theorem dM_goBack_123 : decode cM_goBack 123 = .ok (.iaload, 1) := by decide +kernel
theorem dM_goBack_124 : decode cM_goBack 124 = .ok (.i2l, 1) := by decide +kernel
theorem dM_goBack_125 : decode cM_goBack 125 = .ok (.aload_n 0, 1) := by decide +kernel
theorem dM_goBack_126 : decode cM_goBack 126 = .ok (.getfield 102, 3) := by decide +kernel
theorem dM_goBack_129 : decode cM_goBack 129 = .ok (.lmul, 1) := by decide +kernel
theorem dM_goBack_130 : decode cM_goBack 130 = .ok (.lcmp, 1) := by decide +kernel
theorem dM_goBack_131 : decode cM_goBack 131 = .ok (.ifCond .lt 33, 3) := by decide +kernel
theorem dM_goBack_134 : decode cM_goBack 134 = .ok (.aload_n 0, 1) := by decide +kernel
theorem dM_goBack_135 : decode cM_goBack 135 = .ok (.aload_n 0, 1) := by decide +kernel
theorem dM_goBack_136 : decode cM_goBack 136 = .ok (.getfield 99, 3) := by decide +kernel
theorem dM_goBack_139 : decode cM_goBack 139 = .ok (.aload_n 0, 1) := by decide +kernel
theorem dM_goBack_140 : decode cM_goBack 140 = .ok (.getfield 16, 3) := by decide +kernel
theorem dM_goBack_143 : decode cM_goBack 143 = .ok (.iload 4, 2) := by decide +kernel
theorem dM_goBack_145 : decode cM_goBack 145 = .ok (.iaload, 1) := by decide +kernel
theorem dM_goBack_146 : decode cM_goBack 146 = .ok (.i2l, 1) := by decide +kernel
theorem dM_goBack_147 : decode cM_goBack 147 = .ok (.aload_n 0, 1) := by decide +kernel
theorem dM_goBack_148 : decode cM_goBack 148 = .ok (.getfield 102, 3) := by decide +kernel
theorem dM_goBack_151 : decode cM_goBack 151 = .ok (.lmul, 1) := by decide +kernel
theorem dM_goBack_152 : decode cM_goBack 152 = .ok (.lsub, 1) := by decide +kernel
theorem dM_goBack_153 : decode cM_goBack 153 = .ok (.putfield 99, 3) := by decide +kernel
theorem dM_goBack_156 : decode cM_goBack 156 = .ok (.aload_n 0, 1) := by decide +kernel
theorem dM_goBack_157 : decode cM_goBack 157 = .ok (.getfield 29, 3) := by decide +kernel
theorem dM_goBack_160 : decode cM_goBack 160 = .ok (.iload_n 3, 1) := by decide +kernel
theorem dM_goBack_161 : decode cM_goBack 161 = .ok (.iaload, 1) := by decide +kernel
theorem dM_goBack_162 : decode cM_goBack 162 = .ok (.istore 4, 2) := by decide +kernel
theorem dM_goBack_164 : decode cM_goBack 164 = .ok (.aload_n 0, 1) := by decide +kernel
theorem dM_goBack_165 : decode cM_goBack 165 = .ok (.invokevirtual 105, 3) := by decide +kernel
theorem dM_goBack_168 : decode cM_goBack 168 = .ok (.iload 4, 2) := by decide +kernel
theorem dM_goBack_170 : decode cM_goBack 170 = .ok (.istore_n 3, 1) := by decide +kernel
theorem dM_goBack_171 : decode cM_goBack 171 = .ok (.goto (-158), 3) := by decide +kernel
theorem dM_goBack_174 : decode cM_goBack 174 = .ok (.aload_n 0, 1) := by decide +kernel
theorem dM_goBack_175 : decode cM_goBack 175 = .ok (.invokevirtual 105, 3) := by decide +kernel
theorem dM_goBack_178 : decode cM_goBack 178 = .ok (.aload_n 0, 1) := by decide +kernel
theorem dM_goBack_179 : decode cM_goBack 179 = .ok (.iload_n 3, 1) := by decide +kernel
theorem dM_goBack_180 : decode cM_goBack 180 = .ok (.putfield 108, 3) := by decide +kernel
theorem dM_goBack_183 : decode cM_goBack 183 = .ok (.return_, 1) := by decide +kernel
theorem dM_origin_0 : decode cM_origin 0 = .ok (.aload_n 0, 1) := by decide +kernel
theorem dM_origin_1 : decode cM_origin 1 = .ok (.iload_n 1, 1) := by decide +kernel
theorem dM_origin_2 : decode cM_origin 2 = .ok (.invokevirtual 71, 3) := by decide +kernel
theorem dM_origin_5 : decode cM_origin 5 = .ok (.ifCond .eq 12, 3) := by decide +kernel
theorem dM_origin_8 : decode cM_origin 8 = .ok (.iload_n 3, 1) := by decide +kernel
theorem dM_origin_9 : decode cM_origin 9 = .ok (.iconst 0, 1) := by decide +kernel
theorem dM_origin_10 : decode cM_origin 10 = .ok (.iconst 2, 1) := by decide +kernel
theorem dM_origin_11 : decode cM_origin 11 = .ok (.invokestatic 67, 3) := by decide +kernel
theorem dM_origin_14 : decode cM_origin 14 = .ok (.ifCond .ne 7, 3) := by decide +kernel
theorem dM_origin_17 : decode cM_origin 17 = .ok (.iconst 1, 1) := by decide +kernel
theorem dM_origin_18 : decode cM_origin 18 = .ok (.goto 4, 3) := by decide +kernel
theorem dM_origin_21 : decode cM_origin 21 = .ok (.iconst 0, 1) := by decide +kernel
theorem dM_origin_22 : decode cM_origin 22 = .ok (.istore 4, 2) := by decide +kernel
theorem dM_origin_24 : decode cM_origin 24 = .ok (.aload_n 0, 1) := by decide +kernel
theorem dM_origin_25 : decode cM_origin 25 = .ok (.iload 4, 2) := by decide +kernel
theorem dM_origin_27 : decode cM_origin 27 = .ok (.iload 4, 2) := by decide +kernel
theorem dM_origin_29 : decode cM_origin 29 = .ok (.ifCond .ne 32, 3) := by decide +kernel
theorem dM_origin_32 : decode cM_origin 32 = .ok (.iload_n 2, 1) := by decide +kernel
theorem dM_origin_33 : decode cM_origin 33 = .ok (.iconst 0, 1) := by decide +kernel
theorem dM_origin_34 : decode cM_origin 34 = .ok (.aload_n 0, 1) := by decide +kernel
theorem dM_origin_35 : decode cM_origin 35 = .ok (.getfield 16, 3) := by decide +kernel
theorem dM_origin_38 : decode cM_origin 38 = .ok (.iload 4, 2) := by decide +kernel
theorem dM_origin_40 : decode cM_origin 40 = .ok (.ifCond .eq 7, 3) := by decide +kernel
theorem dM_origin_43 : decode cM_origin 43 = .ok (.iconst 0, 1) := by decide +kernel
theorem dM_origin_44 : decode cM_origin 44 = .ok (.goto 4, 3) := by decide +kernel
theorem dM_origin_47 : decode cM_origin 47 = .ok (.iload_n 1, 1) := by decide +kernel
theorem dM_origin_48 : decode cM_origin 48 = .ok (.iaload, 1) := by decide +kernel
theorem dM_origin_49 : decode cM_origin 49 = .ok (.iconst 1, 1) := by decide +kernel
theorem dM_origin_50 : decode cM_origin 50 = .ok (.isub, 1) := by decide +kernel
theorem dM_origin_51 : decode cM_origin 51 = .ok (.invokestatic 67, 3) := by decide +kernel
theorem dM_origin_54 : decode cM_origin 54 = .ok (.ifCond .ne 7, 3) := by decide +kernel
theorem dM_origin_57 : decode cM_origin 57 = .ok (.iconst 1, 1) := by decide +kernel
theorem dM_origin_58 : decode cM_origin 58 = .ok (.goto 4, 3) := by decide +kernel
theorem dM_origin_61 : decode cM_origin 61 = .ok (.iconst 0, 1) := by decide +kernel
theorem dM_origin_62 : decode cM_origin 62 = .ok (.iconst 0, 1) := by decide +kernel
theorem dM_origin_63 : decode cM_origin 63 = .ok (.iconst 0, 1) := by decide +kernel
theorem dM_origin_64 : decode cM_origin 64 = .ok (.invokevirtual 76, 3) := by decide +kernel
theorem dM_origin_67 : decode cM_origin 67 = .ok (.ifCond .eq 5, 3) := by decide +kernel
theorem dM_origin_70 : decode cM_origin 70 = .ok (.lconst 0, 1) := by decide +kernel
theorem dM_origin_71 : decode cM_origin 71 = .ok (.lreturn, 1) := by decide +kernel
theorem dM_origin_72 : decode cM_origin 72 = .ok (.aload_n 0, 1) := by decide +kernel
theorem dM_origin_73 : decode cM_origin 73 = .ok (.iload_n 1, 1) := by decide +kernel
theorem dM_origin_74 : decode cM_origin 74 = .ok (.iload_n 2, 1) := by decide +kernel
theorem dM_origin_75 : decode cM_origin 75 = .ok (.invokevirtual 111, 3) := by decide +kernel
theorem dM_origin_78 : decode cM_origin 78 = .ok (.iload_n 3, 1) := by decide +kernel
theorem dM_origin_79 : decode cM_origin 79 = .ok (.ifCond .ne 11, 3) := by decide +kernel
theorem dM_origin_82 : decode cM_origin 82 = .ok (.aload_n 0, 1) := by decide +kernel
theorem dM_origin_83 : decode cM_origin 83 = .ok (.getfield 108, 3) := by decide +kernel
theorem dM_origin_86 : decode cM_origin 86 = .ok (.i2l, 1) := by decide +kernel
theorem dM_origin_87 : decode cM_origin 87 = .ok (.goto 19, 3) := by decide +kernel
theorem dM_origin_90 : decode cM_origin 90 = .ok (.iload_n 3, 1) := by decide +kernel
theorem dM_origin_91 : decode cM_origin 91 = .ok (.iconst 1, 1) := by decide +kernel
theorem dM_origin_92 : decode cM_origin 92 = .ok (.if_icmp .ne 10, 3) := by decide +kernel
theorem dM_origin_95 : decode cM_origin 95 = .ok (.aload_n 0, 1) := by decide +kernel
theorem dM_origin_96 : decode cM_origin 96 = .ok (.getfield 99, 3) := by decide +kernel
theorem dM_origin_99 : decode cM_origin 99 = .ok (.goto 7, 3) := by decide +kernel
theorem dM_origin_102 : decode cM_origin 102 = .ok (.aload_n 0, 1) := by decide +kernel
theorem dM_origin_103 : decode cM_origin 103 = .ok (.getfield 102, 3) := by decide +kernel
theorem dM_origin_106 : decode cM_origin 106 = .ok (.lreturn, 1) := by decide +kernel
theorem dM_defect_0 : decode cM_defect 0 = .ok (.aload_n 0, 1) := by decide +kernel
theorem dM_defect_1 : decode cM_defect 1 = .ok (.iload_n 1, 1) := by decide +kernel
theorem dM_defect_2 : decode cM_defect 2 = .ok (.invokevirtual 71, 3) := by decide +kernel
theorem dM_defect_5 : decode cM_defect 5 = .ok (.ifCond .ne 7, 3) := by decide +kernel
theorem dM_defect_8 : decode cM_defect 8 = .ok (.iconst 1, 1) := by decide +kernel
theorem dM_defect_9 : decode cM_defect 9 = .ok (.goto 4, 3) := by decide +kernel
theorem dM_defect_12 : decode cM_defect 12 = .ok (.iconst 0, 1) := by decide +kernel
theorem dM_defect_13 : decode cM_defect 13 = .ok (.istore_n 3, 1) := by decide +kernel
theorem dM_defect_14 : decode cM_defect 14 = .ok (.aload_n 0, 1) := by decide +kernel
theorem dM_defect_15 : decode cM_defect 15 = .ok (.iload_n 3, 1) := by decide +kernel
theorem dM_defect_16 : decode cM_defect 16 = .ok (.iload_n 3, 1) := by decide +kernel
theorem dM_defect_17 : decode cM_defect 17 = .ok (.ifCond .ne 31, 3) := by decide +kernel
theorem dM_defect_20 : decode cM_defect 20 = .ok (.iload_n 2, 1) := by decide +kernel
theorem dM_defect_21 : decode cM_defect 21 = .ok (.iconst 0, 1) := by decide +kernel
theorem dM_defect_22 : decode cM_defect 22 = .ok (.aload_n 0, 1) := by decide +kernel
theorem dM_defect_23 : decode cM_defect 23 = .ok (.getfield 16, 3) := by decide +kernel
theorem dM_defect_26 : decode cM_defect 26 = .ok (.iload_n 3, 1) := by decide +kernel
theorem dM_defect_27 : decode cM_defect 27 = .ok (.ifCond .eq 7, 3) := by decide +kernel
theorem dM_defect_30 : decode cM_defect 30 = .ok (.iconst 0, 1) := by decide +kernel
theorem dM_defect_31 : decode cM_defect 31 = .ok (.goto 4, 3) := by decide +kernel
theorem dM_defect_34 : decode cM_defect 34 = .ok (.iload_n 1, 1) := by decide +kernel
theorem dM_defect_35 : decode cM_defect 35 = .ok (.iaload, 1) := by decide +kernel
theorem dM_defect_36 : decode cM_defect 36 = .ok (.iconst 1, 1) := by decide +kernel
theorem dM_defect_37 : decode cM_defect 37 = .ok (.isub, 1) := by decide +kernel
theorem dM_defect_38 : decode cM_defect 38 = .ok (.invokestatic 67, 3) := by decide +kernel
theorem dM_defect_41 : decode cM_defect 41 = .ok (.ifCond .ne 7, 3) := by decide +kernel
theorem dM_defect_44 : decode cM_defect 44 = .ok (.iconst 1, 1) := by decide +kernel
theorem dM_defect_45 : decode cM_defect 45 = .ok (.goto 4, 3) := by decide +kernel
theorem dM_defect_48 : decode cM_defect 48 = .ok (.iconst 0, 1) := by decide +kernel
theorem dM_defect_49 : decode cM_defect 49 = .ok (.aload_n 0, 1) := by decide +kernel
theorem dM_defect_50 : decode cM_defect 50 = .ok (.getfield 115, 3) := by decide +kernel
theorem dM_defect_53 : decode cM_defect 53 = .ok (.bipush 10, 2) := by decide +kernel
theorem dM_defect_55 : decode cM_defect 55 = .ok (.if_icmp .ne 7, 3) := by decide +kernel
theorem dM_defect_58 : decode cM_defect 58 = .ok (.iconst 1, 1) := by decide +kernel
theorem dM_defect_59 : decode cM_defect 59 = .ok (.goto 4, 3) := by decide +kernel
theorem dM_defect_62 : decode cM_defect 62 = .ok (.iconst 0, 1) := by decide +kernel
theorem dM_defect_63 : decode cM_defect 63 = .ok (.iconst 0, 1) := by decide +kernel
theorem dM_defect_64 : decode cM_defect 64 = .ok (.invokevirtual 76, 3) := by decide +kernel
theorem dM_defect_67 : decode cM_defect 67 = .ok (.ifCond .eq 5, 3) := by decide +kernel
theorem dM_defect_70 : decode cM_defect 70 = .ok (.iconst 0, 1) := by decide +kernel
theorem dM_defect_71 : decode cM_defect 71 = .ok (.ireturn, 1) := by decide +kernel
theorem dM_defect_72 : decode cM_defect 72 = .ok (.aload_n 0, 1) := by decide +kernel
theorem dM_defect_73 : decode cM_defect 73 = .ok (.iload_n 1, 1) := by decide +kernel
theorem dM_defect_74 : decode cM_defect 74 = .ok (.iload_n 2, 1) := by decide +kernel
theorem dM_defect_75 : decode cM_defect 75 = .ok (.invokevirtual 111, 3) := by decide +kernel
theorem dM_defect_78 : decode cM_defect 78 = .ok (.aload_n 0, 1) := by decide +kernel
theorem dM_defect_79 : decode cM_defect 79 = .ok (.getfield 44, 3) := by decide +kernel
theorem dM_defect_82 : decode cM_defect 82 = .ok (.aload_n 0, 1) := by decide +kernel
theorem dM_defect_83 : decode cM_defect 83 = .ok (.getfield 115, 3) := by decide +kernel
theorem dM_defect_86 : decode cM_defect 86 = .ok (.aload_n 0, 1) := by decide +kernel
theorem dM_defect_87 : decode cM_defect 87 = .ok (.getfield 108, 3) := by decide +kernel
theorem dM_defect_90 : decode cM_defect 90 = .ok (.iastore, 1) := by decide +kernel
theorem dM_defect_91 : decode cM_defect 91 = .ok (.aload_n 0, 1) := by decide +kernel
theorem dM_defect_92 : decode cM_defect 92 = .ok (.getfield 47, 3) := by decide +kernel
theorem dM_defect_95 : decode cM_defect 95 = .ok (.aload_n 0, 1) := by decide +kernel
theorem dM_defect_96 : decode cM_defect 96 = .ok (.getfield 115, 3) := by decide +kernel
theorem dM_defect_99 : decode cM_defect 99 = .ok (.aload_n 0, 1) := by decide +kernel
theorem dM_defect_100 : decode cM_defect 100 = .ok (.getfield 99, 3) := by decide +kernel
theorem dM_defect_103 : decode cM_defect 103 = .ok (.lastore, 1) := by decide +kernel
theorem dM_defect_104 : decode cM_defect 104 = .ok (.aload_n 0, 1) := by decide +kernel
theorem dM_defect_105 : decode cM_defect 105 = .ok (.getfield 51, 3) := by decide +kernel
theorem dM_defect_108 : decode cM_defect 108 = .ok (.aload_n 0, 1) := by decide +kernel
theorem dM_defect_109 : decode cM_defect 109 = .ok (.getfield 115, 3) := by decide +kernel
theorem dM_defect_112 : decode cM_defect 112 = .ok (.aload_n 0, 1) := by decide +kernel
theorem dM_defect_113 : decode cM_defect 113 = .ok (.getfield 102, 3) := by decide +kernel
theorem dM_defect_116 : decode cM_defect 116 = .ok (.lastore, 1) := by decide +kernel
theorem dM_defect_117 : decode cM_defect 117 = .ok (.aload_n 0, 1) := by decide +kernel
theorem dM_defect_118 : decode cM_defect 118 = .ok (.dup, 1) := by decide +kernel
theorem dM_defect_119 : decode cM_defect 119 = .ok (.getfield 115, 3) := by decide +kernel
theorem dM_defect_122 : decode cM_defect 122 = .ok (.iconst 1, 1) := by decide +kernel
theorem dM_defect_123 : decode cM_defect 123 = .ok (.iadd, 1) := by decide +kernel
theorem dM_defect_124 : decode cM_defect 124 = .ok (.putfield 115, 3) := by decide +kernel
theorem dM_defect_127 : decode cM_defect 127 = .ok (.aload_n 0, 1) := by decide +kernel
theorem dM_defect_128 : decode cM_defect 128 = .ok (.getfield 115, 3) := by decide +kernel
theorem dM_defect_131 : decode cM_defect 131 = .ok (.iconst 1, 1) := by decide +kernel
theorem dM_defect_132 : decode cM_defect 132 = .ok (.isub, 1) := by decide +kernel
theorem dM_defect_133 : decode cM_defect 133 = .ok (.ireturn, 1) := by decide +kernel
theorem dM_takes_0 : decode cM_takes 0 = .ok (.aload_n 0, 1) := by decide +kernel
theorem dM_takes_1 : decode cM_takes 1 = .ok (.aload_n 0, 1) := by decide +kernel
theorem dM_takes_2 : decode cM_takes 2 = .ok (.getfield 54, 3) := by decide +kernel
theorem dM_takes_5 : decode cM_takes 5 = .ok (.iload_n 1, 1) := by decide +kernel
theorem dM_takes_6 : decode cM_takes 6 = .ok (.laload, 1) := by decide +kernel
theorem dM_takes_7 : decode cM_takes 7 = .ok (.putfield 99, 3) := by decide +kernel
theorem dM_takes_10 : decode cM_takes 10 = .ok (.aload_n 0, 1) := by decide +kernel
theorem dM_takes_11 : decode cM_takes 11 = .ok (.aload_n 0, 1) := by decide +kernel
theorem dM_takes_12 : decode cM_takes 12 = .ok (.getfield 57, 3) := by decide +kernel
theorem dM_takes_15 : decode cM_takes 15 = .ok (.iload_n 1, 1) := by decide +kernel
theorem dM_takes_16 : decode cM_takes 16 = .ok (.laload, 1) := by decide +kernel
theorem dM_takes_17 : decode cM_takes 17 = .ok (.putfield 102, 3) := by decide +kernel
theorem dM_takes_20 : decode cM_takes 20 = .ok (.aload_n 0, 1) := by decide +kernel
theorem dM_takes_21 : decode cM_takes 21 = .ok (.getfield 99, 3) := by decide +kernel
theorem dM_takes_24 : decode cM_takes 24 = .ok (.lconst 0, 1) := by decide +kernel
theorem dM_takes_25 : decode cM_takes 25 = .ok (.lcmp, 1) := by decide +kernel
theorem dM_takes_26 : decode cM_takes 26 = .ok (.ifCond .lt 7, 3) := by decide +kernel
theorem dM_takes_29 : decode cM_takes 29 = .ok (.iconst 1, 1) := by decide +kernel
theorem dM_takes_30 : decode cM_takes 30 = .ok (.goto 4, 3) := by decide +kernel
theorem dM_takes_33 : decode cM_takes 33 = .ok (.iconst 0, 1) := by decide +kernel
theorem dM_takes_34 : decode cM_takes 34 = .ok (.ireturn, 1) := by decide +kernel
theorem dM_reaches_0 : decode cM_reaches 0 = .ok (.aload_n 0, 1) := by decide +kernel
theorem dM_reaches_1 : decode cM_reaches 1 = .ok (.getfield 7, 3) := by decide +kernel
theorem dM_reaches_4 : decode cM_reaches 4 = .ok (.iload_n 1, 1) := by decide +kernel
theorem dM_reaches_5 : decode cM_reaches 5 = .ok (.iaload, 1) := by decide +kernel
theorem dM_reaches_6 : decode cM_reaches 6 = .ok (.iconst 3, 1) := by decide +kernel
theorem dM_reaches_7 : decode cM_reaches 7 = .ok (.if_icmp .ne 61, 3) := by decide +kernel
theorem dM_reaches_10 : decode cM_reaches 10 = .ok (.aload_n 0, 1) := by decide +kernel
theorem dM_reaches_11 : decode cM_reaches 11 = .ok (.aload_n 0, 1) := by decide +kernel
theorem dM_reaches_12 : decode cM_reaches 12 = .ok (.getfield 26, 3) := by decide +kernel
theorem dM_reaches_15 : decode cM_reaches 15 = .ok (.iload_n 1, 1) := by decide +kernel
theorem dM_reaches_16 : decode cM_reaches 16 = .ok (.iaload, 1) := by decide +kernel
theorem dM_reaches_17 : decode cM_reaches 17 = .ok (.invokevirtual 118, 3) := by decide +kernel
theorem dM_reaches_20 : decode cM_reaches 20 = .ok (.ifCond .eq 5, 3) := by decide +kernel
theorem dM_reaches_23 : decode cM_reaches 23 = .ok (.iconst 1, 1) := by decide +kernel
theorem dM_reaches_24 : decode cM_reaches 24 = .ok (.ireturn, 1) := by decide +kernel
theorem dM_reaches_25 : decode cM_reaches 25 = .ok (.aload_n 0, 1) := by decide +kernel
theorem dM_reaches_26 : decode cM_reaches 26 = .ok (.aload_n 0, 1) := by decide +kernel
theorem dM_reaches_27 : decode cM_reaches 27 = .ok (.getfield 29, 3) := by decide +kernel
theorem dM_reaches_30 : decode cM_reaches 30 = .ok (.iload_n 1, 1) := by decide +kernel
theorem dM_reaches_31 : decode cM_reaches 31 = .ok (.iaload, 1) := by decide +kernel
theorem dM_reaches_32 : decode cM_reaches 32 = .ok (.invokevirtual 118, 3) := by decide +kernel
theorem dM_reaches_35 : decode cM_reaches 35 = .ok (.ifCond .ne 5, 3) := by decide +kernel
theorem dM_reaches_38 : decode cM_reaches 38 = .ok (.iconst 0, 1) := by decide +kernel
theorem dM_reaches_39 : decode cM_reaches 39 = .ok (.ireturn, 1) := by decide +kernel
theorem dM_reaches_40 : decode cM_reaches 40 = .ok (.aload_n 0, 1) := by decide +kernel
theorem dM_reaches_41 : decode cM_reaches 41 = .ok (.aload_n 0, 1) := by decide +kernel
theorem dM_reaches_42 : decode cM_reaches 42 = .ok (.getfield 99, 3) := by decide +kernel
theorem dM_reaches_45 : decode cM_reaches 45 = .ok (.aload_n 0, 1) := by decide +kernel
theorem dM_reaches_46 : decode cM_reaches 46 = .ok (.getfield 16, 3) := by decide +kernel
theorem dM_reaches_49 : decode cM_reaches 49 = .ok (.aload_n 0, 1) := by decide +kernel
theorem dM_reaches_50 : decode cM_reaches 50 = .ok (.getfield 26, 3) := by decide +kernel
theorem dM_reaches_53 : decode cM_reaches 53 = .ok (.iload_n 1, 1) := by decide +kernel
theorem dM_reaches_54 : decode cM_reaches 54 = .ok (.iaload, 1) := by decide +kernel
theorem dM_reaches_55 : decode cM_reaches 55 = .ok (.iaload, 1) := by decide +kernel
theorem dM_reaches_56 : decode cM_reaches 56 = .ok (.i2l, 1) := by decide +kernel
theorem dM_reaches_57 : decode cM_reaches 57 = .ok (.aload_n 0, 1) := by decide +kernel
theorem dM_reaches_58 : decode cM_reaches 58 = .ok (.getfield 102, 3) := by decide +kernel
theorem dM_reaches_61 : decode cM_reaches 61 = .ok (.lmul, 1) := by decide +kernel
theorem dM_reaches_62 : decode cM_reaches 62 = .ok (.ladd, 1) := by decide +kernel
theorem dM_reaches_63 : decode cM_reaches 63 = .ok (.putfield 99, 3) := by decide +kernel
theorem dM_reaches_66 : decode cM_reaches 66 = .ok (.iconst 1, 1) := by decide +kernel
theorem dM_reaches_67 : decode cM_reaches 67 = .ok (.ireturn, 1) := by decide +kernel
theorem dM_reaches_68 : decode cM_reaches 68 = .ok (.aload_n 0, 1) := by decide +kernel
theorem dM_reaches_69 : decode cM_reaches 69 = .ok (.aload_n 0, 1) := by decide +kernel
theorem dM_reaches_70 : decode cM_reaches 70 = .ok (.getfield 26, 3) := by decide +kernel
theorem dM_reaches_73 : decode cM_reaches 73 = .ok (.iload_n 1, 1) := by decide +kernel
theorem dM_reaches_74 : decode cM_reaches 74 = .ok (.iaload, 1) := by decide +kernel
theorem dM_reaches_75 : decode cM_reaches 75 = .ok (.invokevirtual 118, 3) := by decide +kernel
theorem dM_reaches_78 : decode cM_reaches 78 = .ok (.ifCond .ne 5, 3) := by decide +kernel
theorem dM_reaches_81 : decode cM_reaches 81 = .ok (.iconst 0, 1) := by decide +kernel
theorem dM_reaches_82 : decode cM_reaches 82 = .ok (.ireturn, 1) := by decide +kernel
theorem dM_reaches_83 : decode cM_reaches 83 = .ok (.aload_n 0, 1) := by decide +kernel
theorem dM_reaches_84 : decode cM_reaches 84 = .ok (.getfield 7, 3) := by decide +kernel
theorem dM_reaches_87 : decode cM_reaches 87 = .ok (.iload_n 1, 1) := by decide +kernel
theorem dM_reaches_88 : decode cM_reaches 88 = .ok (.iaload, 1) := by decide +kernel
theorem dM_reaches_89 : decode cM_reaches 89 = .ok (.iconst 1, 1) := by decide +kernel
theorem dM_reaches_90 : decode cM_reaches 90 = .ok (.if_icmp .ne 29, 3) := by decide +kernel
theorem dM_reaches_93 : decode cM_reaches 93 = .ok (.aload_n 0, 1) := by decide +kernel
theorem dM_reaches_94 : decode cM_reaches 94 = .ok (.getfield 99, 3) := by decide +kernel
theorem dM_reaches_97 : decode cM_reaches 97 = .ok (.aload_n 0, 1) := by decide +kernel
theorem dM_reaches_98 : decode cM_reaches 98 = .ok (.getfield 32, 3) := by decide +kernel
theorem dM_reaches_101 : decode cM_reaches 101 = .ok (.iload_n 1, 1) := by decide +kernel
theorem dM_reaches_102 : decode cM_reaches 102 = .ok (.iaload, 1) := by decide +kernel
theorem dM_reaches_103 : decode cM_reaches 103 = .ok (.i2l, 1) := by decide +kernel
theorem dM_reaches_104 : decode cM_reaches 104 = .ok (.aload_n 0, 1) := by decide +kernel
theorem dM_reaches_105 : decode cM_reaches 105 = .ok (.getfield 102, 3) := by decide +kernel
theorem dM_reaches_108 : decode cM_reaches 108 = .ok (.lmul, 1) := by decide +kernel
theorem dM_reaches_109 : decode cM_reaches 109 = .ok (.lcmp, 1) := by decide +kernel
theorem dM_reaches_110 : decode cM_reaches 110 = .ok (.ifCond .ge 7, 3) := by decide +kernel
theorem dM_reaches_113 : decode cM_reaches 113 = .ok (.iconst 1, 1) := by decide +kernel
theorem dM_reaches_114 : decode cM_reaches 114 = .ok (.goto 4, 3) := by decide +kernel
theorem dM_reaches_117 : decode cM_reaches 117 = .ok (.iconst 0, 1) := by decide +kernel
theorem dM_reaches_118 : decode cM_reaches 118 = .ok (.ireturn, 1) := by decide +kernel
theorem dM_reaches_119 : decode cM_reaches 119 = .ok (.aload_n 0, 1) := by decide +kernel
theorem dM_reaches_120 : decode cM_reaches 120 = .ok (.getfield 7, 3) := by decide +kernel
theorem dM_reaches_123 : decode cM_reaches 123 = .ok (.iload_n 1, 1) := by decide +kernel
theorem dM_reaches_124 : decode cM_reaches 124 = .ok (.iaload, 1) := by decide +kernel
theorem dM_reaches_125 : decode cM_reaches 125 = .ok (.iconst 2, 1) := by decide +kernel
theorem dM_reaches_126 : decode cM_reaches 126 = .ok (.if_icmp .ne 39, 3) := by decide +kernel
theorem dM_reaches_129 : decode cM_reaches 129 = .ok (.aload_n 0, 1) := by decide +kernel
theorem dM_reaches_130 : decode cM_reaches 130 = .ok (.aload_n 0, 1) := by decide +kernel
theorem dM_reaches_131 : decode cM_reaches 131 = .ok (.getfield 99, 3) := by decide +kernel
theorem dM_reaches_134 : decode cM_reaches 134 = .ok (.aload_n 0, 1) := by decide +kernel
theorem dM_reaches_135 : decode cM_reaches 135 = .ok (.getfield 32, 3) := by decide +kernel
theorem dM_reaches_138 : decode cM_reaches 138 = .ok (.iload_n 1, 1) := by decide +kernel
theorem dM_reaches_139 : decode cM_reaches 139 = .ok (.iaload, 1) := by decide +kernel
theorem dM_reaches_140 : decode cM_reaches 140 = .ok (.i2l, 1) := by decide +kernel
theorem dM_reaches_141 : decode cM_reaches 141 = .ok (.aload_n 0, 1) := by decide +kernel
theorem dM_reaches_142 : decode cM_reaches 142 = .ok (.getfield 102, 3) := by decide +kernel
theorem dM_reaches_145 : decode cM_reaches 145 = .ok (.lmul, 1) := by decide +kernel
theorem dM_reaches_146 : decode cM_reaches 146 = .ok (.lsub, 1) := by decide +kernel
theorem dM_reaches_147 : decode cM_reaches 147 = .ok (.putfield 99, 3) := by decide +kernel
theorem dM_reaches_150 : decode cM_reaches 150 = .ok (.aload_n 0, 1) := by decide +kernel
theorem dM_reaches_151 : decode cM_reaches 151 = .ok (.getfield 99, 3) := by decide +kernel
theorem dM_reaches_154 : decode cM_reaches 154 = .ok (.lconst 0, 1) := by decide +kernel
theorem dM_reaches_155 : decode cM_reaches 155 = .ok (.lcmp, 1) := by decide +kernel
theorem dM_reaches_156 : decode cM_reaches 156 = .ok (.ifCond .lt 7, 3) := by decide +kernel
theorem dM_reaches_159 : decode cM_reaches 159 = .ok (.iconst 1, 1) := by decide +kernel
theorem dM_reaches_160 : decode cM_reaches 160 = .ok (.goto 4, 3) := by decide +kernel
theorem dM_reaches_163 : decode cM_reaches 163 = .ok (.iconst 0, 1) := by decide +kernel
theorem dM_reaches_164 : decode cM_reaches 164 = .ok (.ireturn, 1) := by decide +kernel
theorem dM_reaches_165 : decode cM_reaches 165 = .ok (.aload_n 0, 1) := by decide +kernel
theorem dM_reaches_166 : decode cM_reaches 166 = .ok (.getfield 7, 3) := by decide +kernel
theorem dM_reaches_169 : decode cM_reaches 169 = .ok (.iload_n 1, 1) := by decide +kernel
theorem dM_reaches_170 : decode cM_reaches 170 = .ok (.iaload, 1) := by decide +kernel
theorem dM_reaches_171 : decode cM_reaches 171 = .ok (.iconst 4, 1) := by decide +kernel
theorem dM_reaches_172 : decode cM_reaches 172 = .ok (.if_icmp .ne 61, 3) := by decide +kernel
theorem dM_reaches_175 : decode cM_reaches 175 = .ok (.aload_n 0, 1) := by decide +kernel
theorem dM_reaches_176 : decode cM_reaches 176 = .ok (.aload_n 0, 1) := by decide +kernel
theorem dM_reaches_177 : decode cM_reaches 177 = .ok (.getfield 99, 3) := by decide +kernel
theorem dM_reaches_180 : decode cM_reaches 180 = .ok (.aload_n 0, 1) := by decide +kernel
theorem dM_reaches_181 : decode cM_reaches 181 = .ok (.getfield 35, 3) := by decide +kernel
theorem dM_reaches_184 : decode cM_reaches 184 = .ok (.iload_n 1, 1) := by decide +kernel
theorem dM_reaches_185 : decode cM_reaches 185 = .ok (.iaload, 1) := by decide +kernel
theorem dM_reaches_186 : decode cM_reaches 186 = .ok (.i2l, 1) := by decide +kernel
theorem dM_reaches_187 : decode cM_reaches 187 = .ok (.lmul, 1) := by decide +kernel
theorem dM_reaches_188 : decode cM_reaches 188 = .ok (.putfield 99, 3) := by decide +kernel
theorem dM_reaches_191 : decode cM_reaches 191 = .ok (.aload_n 0, 1) := by decide +kernel
theorem dM_reaches_192 : decode cM_reaches 192 = .ok (.aload_n 0, 1) := by decide +kernel
theorem dM_reaches_193 : decode cM_reaches 193 = .ok (.getfield 102, 3) := by decide +kernel
theorem dM_reaches_196 : decode cM_reaches 196 = .ok (.aload_n 0, 1) := by decide +kernel
theorem dM_reaches_197 : decode cM_reaches 197 = .ok (.getfield 38, 3) := by decide +kernel
theorem dM_reaches_200 : decode cM_reaches 200 = .ok (.iload_n 1, 1) := by decide +kernel
theorem dM_reaches_201 : decode cM_reaches 201 = .ok (.iaload, 1) := by decide +kernel
theorem dM_reaches_202 : decode cM_reaches 202 = .ok (.i2l, 1) := by decide +kernel
theorem dM_reaches_203 : decode cM_reaches 203 = .ok (.lmul, 1) := by decide +kernel
theorem dM_reaches_204 : decode cM_reaches 204 = .ok (.putfield 102, 3) := by decide +kernel
theorem dM_reaches_207 : decode cM_reaches 207 = .ok (.aload_n 0, 1) := by decide +kernel
theorem dM_reaches_208 : decode cM_reaches 208 = .ok (.getfield 99, 3) := by decide +kernel
theorem dM_reaches_211 : decode cM_reaches 211 = .ok (.aload_n 0, 1) := by decide +kernel
theorem dM_reaches_212 : decode cM_reaches 212 = .ok (.getfield 16, 3) := by decide +kernel
theorem dM_reaches_215 : decode cM_reaches 215 = .ok (.iload_n 1, 1) := by decide +kernel
theorem dM_reaches_216 : decode cM_reaches 216 = .ok (.iaload, 1) := by decide +kernel
theorem dM_reaches_217 : decode cM_reaches 217 = .ok (.i2l, 1) := by decide +kernel
theorem dM_reaches_218 : decode cM_reaches 218 = .ok (.aload_n 0, 1) := by decide +kernel
theorem dM_reaches_219 : decode cM_reaches 219 = .ok (.getfield 102, 3) := by decide +kernel
theorem dM_reaches_222 : decode cM_reaches 222 = .ok (.lmul, 1) := by decide +kernel
theorem dM_reaches_223 : decode cM_reaches 223 = .ok (.lcmp, 1) := by decide +kernel
theorem dM_reaches_224 : decode cM_reaches 224 = .ok (.ifCond .ge 7, 3) := by decide +kernel
theorem dM_reaches_227 : decode cM_reaches 227 = .ok (.iconst 1, 1) := by decide +kernel
theorem dM_reaches_228 : decode cM_reaches 228 = .ok (.goto 4, 3) := by decide +kernel
theorem dM_reaches_231 : decode cM_reaches 231 = .ok (.iconst 0, 1) := by decide +kernel
theorem dM_reaches_232 : decode cM_reaches 232 = .ok (.ireturn, 1) := by decide +kernel
theorem dM_reaches_233 : decode cM_reaches 233 = .ok (.iconst 1, 1) := by decide +kernel
theorem dM_reaches_234 : decode cM_reaches 234 = .ok (.ireturn, 1) := by decide +kernel
theorem dM_goForward_0 : decode cM_goForward 0 = .ok (.iconst 0, 1) := by decide +kernel
theorem dM_goForward_1 : decode cM_goForward 1 = .ok (.istore_n 2, 1) := by decide +kernel
theorem dM_goForward_2 : decode cM_goForward 2 = .ok (.iload_n 2, 1) := by decide +kernel
theorem dM_goForward_3 : decode cM_goForward 3 = .ok (.aload_n 0, 1) := by decide +kernel
theorem dM_goForward_4 : decode cM_goForward 4 = .ok (.getfield 64, 3) := by decide +kernel
theorem dM_goForward_7 : decode cM_goForward 7 = .ok (.if_icmp .ge 121, 3) := by decide +kernel
theorem dM_goForward_10 : decode cM_goForward 10 = .ok (.aload_n 0, 1) := by decide +kernel
theorem dM_goForward_11 : decode cM_goForward 11 = .ok (.getfield 7, 3) := by decide +kernel
theorem dM_goForward_14 : decode cM_goForward 14 = .ok (.iload_n 2, 1) := by decide +kernel
theorem dM_goForward_15 : decode cM_goForward 15 = .ok (.iaload, 1) := by decide +kernel
theorem dM_goForward_16 : decode cM_goForward 16 = .ok (.ifCond .ne 21, 3) := by decide +kernel
theorem dM_goForward_19 : decode cM_goForward 19 = .ok (.aload_n 0, 1) := by decide +kernel
theorem dM_goForward_20 : decode cM_goForward 20 = .ok (.getfield 44, 3) := by decide +kernel
theorem dM_goForward_23 : decode cM_goForward 23 = .ok (.iload_n 1, 1) := by decide +kernel
theorem dM_goForward_24 : decode cM_goForward 24 = .ok (.iaload, 1) := by decide +kernel
theorem dM_goForward_25 : decode cM_goForward 25 = .ok (.iload_n 2, 1) := by decide +kernel
theorem dM_goForward_26 : decode cM_goForward 26 = .ok (.if_icmp .ne 7, 3) := by decide +kernel
theorem dM_goForward_29 : decode cM_goForward 29 = .ok (.iconst 1, 1) := by decide +kernel
theorem dM_goForward_30 : decode cM_goForward 30 = .ok (.goto 12, 3) := by decide +kernel
theorem dM_goForward_33 : decode cM_goForward 33 = .ok (.iconst 0, 1) := by decide +kernel
theorem dM_goForward_34 : decode cM_goForward 34 = .ok (.goto 8, 3) := by decide +kernel
theorem dM_goForward_37 : decode cM_goForward 37 = .ok (.aload_n 0, 1) := by decide +kernel
theorem dM_goForward_38 : decode cM_goForward 38 = .ok (.iload_n 2, 1) := by decide +kernel
theorem dM_goForward_39 : decode cM_goForward 39 = .ok (.invokevirtual 121, 3) := by decide +kernel
theorem dM_goForward_42 : decode cM_goForward 42 = .ok (.istore_n 3, 1) := by decide +kernel
theorem dM_goForward_43 : decode cM_goForward 43 = .ok (.iload_n 3, 1) := by decide +kernel
theorem dM_goForward_44 : decode cM_goForward 44 = .ok (.ifCond .eq 32, 3) := by decide +kernel
theorem dM_goForward_47 : decode cM_goForward 47 = .ok (.aload_n 0, 1) := by decide +kernel
theorem dM_goForward_48 : decode cM_goForward 48 = .ok (.getfield 7, 3) := by decide +kernel
theorem dM_goForward_51 : decode cM_goForward 51 = .ok (.iload_n 2, 1) := by decide +kernel
theorem dM_goForward_52 : decode cM_goForward 52 = .ok (.iaload, 1) := by decide +kernel
theorem dM_goForward_53 : decode cM_goForward 53 = .ok (.ifCond .ne 23, 3) := by decide +kernel
theorem dM_goForward_56 : decode cM_goForward 56 = .ok (.aload_n 0, 1) := by decide +kernel
theorem dM_goForward_57 : decode cM_goForward 57 = .ok (.aload_n 0, 1) := by decide +kernel
theorem dM_goForward_58 : decode cM_goForward 58 = .ok (.getfield 47, 3) := by decide +kernel
theorem dM_goForward_61 : decode cM_goForward 61 = .ok (.iload_n 1, 1) := by decide +kernel
theorem dM_goForward_62 : decode cM_goForward 62 = .ok (.laload, 1) := by decide +kernel
theorem dM_goForward_63 : decode cM_goForward 63 = .ok (.putfield 99, 3) := by decide +kernel
theorem dM_goForward_66 : decode cM_goForward 66 = .ok (.aload_n 0, 1) := by decide +kernel
theorem dM_goForward_67 : decode cM_goForward 67 = .ok (.aload_n 0, 1) := by decide +kernel
theorem dM_goForward_68 : decode cM_goForward 68 = .ok (.getfield 51, 3) := by decide +kernel
theorem dM_goForward_71 : decode cM_goForward 71 = .ok (.iload_n 1, 1) := by decide +kernel
theorem dM_goForward_72 : decode cM_goForward 72 = .ok (.laload, 1) := by decide +kernel
theorem dM_goForward_73 : decode cM_goForward 73 = .ok (.putfield 102, 3) := by decide +kernel
theorem dM_goForward_76 : decode cM_goForward 76 = .ok (.iload_n 3, 1) := by decide +kernel
theorem dM_goForward_77 : decode cM_goForward 77 = .ok (.ifCond .eq 7, 3) := by decide +kernel
theorem dM_goForward_80 : decode cM_goForward 80 = .ok (.aload_n 0, 1) := by decide +kernel
theorem dM_goForward_81 : decode cM_goForward 81 = .ok (.invokevirtual 105, 3) := by decide +kernel
theorem dM_goForward_84 : decode cM_goForward 84 = .ok (.aload_n 0, 1) := by decide +kernel
theorem dM_goForward_85 : decode cM_goForward 85 = .ok (.getfield 54, 3) := by decide +kernel
theorem dM_goForward_88 : decode cM_goForward 88 = .ok (.iload_n 2, 1) := by decide +kernel
theorem dM_goForward_89 : decode cM_goForward 89 = .ok (.iload_n 3, 1) := by decide +kernel
theorem dM_goForward_90 : decode cM_goForward 90 = .ok (.ifCond .eq 10, 3) := by decide +kernel
theorem dM_goForward_93 : decode cM_goForward 93 = .ok (.aload_n 0, 1) := by decide +kernel
theorem dM_goForward_94 : decode cM_goForward 94 = .ok (.getfield 99, 3) := by decide +kernel
theorem dM_goForward_97 : decode cM_goForward 97 = .ok (.goto 6, 3) := by decide +kernel
theorem dM_goForward_100 : decode cM_goForward 100 = .ok (.ldc2_w 124, 3) := by decide +kernel
theorem dM_goForward_103 : decode cM_goForward 103 = .ok (.lastore, 1) := by decide +kernel
theorem dM_goForward_104 : decode cM_goForward 104 = .ok (.aload_n 0, 1) := by decide +kernel
theorem dM_goForward_105 : decode cM_goForward 105 = .ok (.getfield 57, 3) := by decide +kernel
theorem dM_goForward_108 : decode cM_goForward 108 = .ok (.iload_n 2, 1) := by decide +kernel
theorem dM_goForward_109 : decode cM_goForward 109 = .ok (.iload_n 3, 1) := by decide +kernel
theorem dM_goForward_110 : decode cM_goForward 110 = .ok (.ifCond .eq 10, 3) := by decide +kernel
theorem dM_goForward_113 : decode cM_goForward 113 = .ok (.aload_n 0, 1) := by decide +kernel
theorem dM_goForward_114 : decode cM_goForward 114 = .ok (.getfield 102, 3) := by decide +kernel
theorem dM_goForward_117 : decode cM_goForward 117 = .ok (.goto 4, 3) := by decide +kernel
theorem dM_goForward_120 : decode cM_goForward 120 = .ok (.lconst 1, 1) := by decide +kernel
theorem dM_goForward_121 : decode cM_goForward 121 = .ok (.lastore, 1) := by decide +kernel
theorem dM_goForward_122 : decode cM_goForward 122 = .ok (.iinc 2 1, 3) := by decide +kernel
theorem dM_goForward_125 : decode cM_goForward 125 = .ok (.goto (-123), 3) := by decide +kernel
theorem dM_goForward_128 : decode cM_goForward 128 = .ok (.return_, 1) := by decide +kernel
theorem dM_isDefect_0 : decode cM_isDefect 0 = .ok (.iload_n 1, 1) := by decide +kernel
theorem dM_isDefect_1 : decode cM_isDefect 1 = .ok (.iconst 0, 1) := by decide +kernel
theorem dM_isDefect_2 : decode cM_isDefect 2 = .ok (.aload_n 0, 1) := by decide +kernel
theorem dM_isDefect_3 : decode cM_isDefect 3 = .ok (.getfield 115, 3) := by decide +kernel
theorem dM_isDefect_6 : decode cM_isDefect 6 = .ok (.iconst 1, 1) := by decide +kernel
theorem dM_isDefect_7 : decode cM_isDefect 7 = .ok (.isub, 1) := by decide +kernel
theorem dM_isDefect_8 : decode cM_isDefect 8 = .ok (.invokestatic 67, 3) := by decide +kernel
theorem dM_isDefect_11 : decode cM_isDefect 11 = .ok (.ireturn, 1) := by decide +kernel
theorem dM_has_0 : decode cM_has 0 = .ok (.aload_n 0, 1) := by decide +kernel
theorem dM_has_1 : decode cM_has 1 = .ok (.aload_n 0, 1) := by decide +kernel
theorem dM_has_2 : decode cM_has 2 = .ok (.iload_n 1, 1) := by decide +kernel
theorem dM_has_3 : decode cM_has 3 = .ok (.invokevirtual 126, 3) := by decide +kernel
theorem dM_has_6 : decode cM_has 6 = .ok (.ifCond .eq 20, 3) := by decide +kernel
theorem dM_has_9 : decode cM_has 9 = .ok (.aload_n 0, 1) := by decide +kernel
theorem dM_has_10 : decode cM_has 10 = .ok (.iload_n 2, 1) := by decide +kernel
theorem dM_has_11 : decode cM_has 11 = .ok (.invokevirtual 71, 3) := by decide +kernel
theorem dM_has_14 : decode cM_has 14 = .ok (.ifCond .eq 12, 3) := by decide +kernel
theorem dM_has_17 : decode cM_has 17 = .ok (.iload_n 3, 1) := by decide +kernel
theorem dM_has_18 : decode cM_has 18 = .ok (.iconst 0, 1) := by decide +kernel
theorem dM_has_19 : decode cM_has 19 = .ok (.iconst 1, 1) := by decide +kernel
theorem dM_has_20 : decode cM_has 20 = .ok (.invokestatic 67, 3) := by decide +kernel
theorem dM_has_23 : decode cM_has 23 = .ok (.ifCond .ne 7, 3) := by decide +kernel
theorem dM_has_26 : decode cM_has 26 = .ok (.iconst 1, 1) := by decide +kernel
theorem dM_has_27 : decode cM_has 27 = .ok (.goto 4, 3) := by decide +kernel
theorem dM_has_30 : decode cM_has 30 = .ok (.iconst 0, 1) := by decide +kernel
theorem dM_has_31 : decode cM_has 31 = .ok (.iconst 0, 1) := by decide +kernel
theorem dM_has_32 : decode cM_has 32 = .ok (.iconst 0, 1) := by decide +kernel
theorem dM_has_33 : decode cM_has 33 = .ok (.iconst 0, 1) := by decide +kernel
theorem dM_has_34 : decode cM_has 34 = .ok (.invokevirtual 76, 3) := by decide +kernel
theorem dM_has_37 : decode cM_has 37 = .ok (.ifCond .eq 5, 3) := by decide +kernel
theorem dM_has_40 : decode cM_has 40 = .ok (.lconst 0, 1) := by decide +kernel
theorem dM_has_41 : decode cM_has 41 = .ok (.lreturn, 1) := by decide +kernel
theorem dM_has_42 : decode cM_has 42 = .ok (.aload_n 0, 1) := by decide +kernel
theorem dM_has_43 : decode cM_has 43 = .ok (.iload_n 1, 1) := by decide +kernel
theorem dM_has_44 : decode cM_has 44 = .ok (.invokevirtual 129, 3) := by decide +kernel
theorem dM_has_47 : decode cM_has 47 = .ok (.aload_n 0, 1) := by decide +kernel
theorem dM_has_48 : decode cM_has 48 = .ok (.getfield 54, 3) := by decide +kernel
theorem dM_has_51 : decode cM_has 51 = .ok (.iload_n 2, 1) := by decide +kernel
theorem dM_has_52 : decode cM_has 52 = .ok (.laload, 1) := by decide +kernel
theorem dM_has_53 : decode cM_has 53 = .ok (.lconst 0, 1) := by decide +kernel
theorem dM_has_54 : decode cM_has 54 = .ok (.lcmp, 1) := by decide +kernel
theorem dM_has_55 : decode cM_has 55 = .ok (.ifCond .ge 9, 3) := by decide +kernel
theorem dM_has_58 : decode cM_has 58 = .ok (.ldc2_w 124, 3) := by decide +kernel
theorem dM_has_61 : decode cM_has 61 = .ok (.goto 22, 3) := by decide +kernel
theorem dM_has_64 : decode cM_has 64 = .ok (.iload_n 3, 1) := by decide +kernel
theorem dM_has_65 : decode cM_has 65 = .ok (.ifCond .ne 12, 3) := by decide +kernel
theorem dM_has_68 : decode cM_has 68 = .ok (.aload_n 0, 1) := by decide +kernel
theorem dM_has_69 : decode cM_has 69 = .ok (.getfield 54, 3) := by decide +kernel
theorem dM_has_72 : decode cM_has 72 = .ok (.iload_n 2, 1) := by decide +kernel
theorem dM_has_73 : decode cM_has 73 = .ok (.laload, 1) := by decide +kernel
theorem dM_has_74 : decode cM_has 74 = .ok (.goto 9, 3) := by decide +kernel
theorem dM_has_77 : decode cM_has 77 = .ok (.aload_n 0, 1) := by decide +kernel
theorem dM_has_78 : decode cM_has 78 = .ok (.getfield 57, 3) := by decide +kernel
theorem dM_has_81 : decode cM_has 81 = .ok (.iload_n 2, 1) := by decide +kernel
theorem dM_has_82 : decode cM_has 82 = .ok (.laload, 1) := by decide +kernel
theorem dM_has_83 : decode cM_has 83 = .ok (.lreturn, 1) := by decide +kernel
theorem dM_recall_0 : decode cM_recall 0 = .ok (.aload_n 0, 1) := by decide +kernel
theorem dM_recall_1 : decode cM_recall 1 = .ok (.aload_n 0, 1) := by decide +kernel
theorem dM_recall_2 : decode cM_recall 2 = .ok (.iload_n 1, 1) := by decide +kernel
theorem dM_recall_3 : decode cM_recall 3 = .ok (.invokevirtual 126, 3) := by decide +kernel
theorem dM_recall_6 : decode cM_recall 6 = .ok (.ifCond .eq 7, 3) := by decide +kernel
theorem dM_recall_9 : decode cM_recall 9 = .ok (.iload_n 2, 1) := by decide +kernel
theorem dM_recall_10 : decode cM_recall 10 = .ok (.ifCond .ge 7, 3) := by decide +kernel
theorem dM_recall_13 : decode cM_recall 13 = .ok (.iconst 1, 1) := by decide +kernel
theorem dM_recall_14 : decode cM_recall 14 = .ok (.goto 4, 3) := by decide +kernel
theorem dM_recall_17 : decode cM_recall 17 = .ok (.iconst 0, 1) := by decide +kernel
theorem dM_recall_18 : decode cM_recall 18 = .ok (.iconst 0, 1) := by decide +kernel
theorem dM_recall_19 : decode cM_recall 19 = .ok (.iconst 0, 1) := by decide +kernel
theorem dM_recall_20 : decode cM_recall 20 = .ok (.iconst 0, 1) := by decide +kernel
theorem dM_recall_21 : decode cM_recall 21 = .ok (.invokevirtual 76, 3) := by decide +kernel
theorem dM_recall_24 : decode cM_recall 24 = .ok (.ifCond .eq 5, 3) := by decide +kernel
theorem dM_recall_27 : decode cM_recall 27 = .ok (.iconst 0, 1) := by decide +kernel
theorem dM_recall_28 : decode cM_recall 28 = .ok (.ireturn, 1) := by decide +kernel
theorem dM_recall_29 : decode cM_recall 29 = .ok (.aload_n 0, 1) := by decide +kernel
theorem dM_recall_30 : decode cM_recall 30 = .ok (.iload_n 1, 1) := by decide +kernel
theorem dM_recall_31 : decode cM_recall 31 = .ok (.invokevirtual 129, 3) := by decide +kernel
theorem dM_recall_34 : decode cM_recall 34 = .ok (.iconst 0, 1) := by decide +kernel
theorem dM_recall_35 : decode cM_recall 35 = .ok (.istore_n 3, 1) := by decide +kernel
theorem dM_recall_36 : decode cM_recall 36 = .ok (.iconst 0, 1) := by decide +kernel
theorem dM_recall_37 : decode cM_recall 37 = .ok (.istore 4, 2) := by decide +kernel
theorem dM_recall_39 : decode cM_recall 39 = .ok (.iload 4, 2) := by decide +kernel
theorem dM_recall_41 : decode cM_recall 41 = .ok (.aload_n 0, 1) := by decide +kernel
theorem dM_recall_42 : decode cM_recall 42 = .ok (.getfield 64, 3) := by decide +kernel
theorem dM_recall_45 : decode cM_recall 45 = .ok (.if_icmp .ge 42, 3) := by decide +kernel
theorem dM_recall_48 : decode cM_recall 48 = .ok (.aload_n 0, 1) := by decide +kernel
theorem dM_recall_49 : decode cM_recall 49 = .ok (.getfield 19, 3) := by decide +kernel
theorem dM_recall_52 : decode cM_recall 52 = .ok (.iload 4, 2) := by decide +kernel
theorem dM_recall_54 : decode cM_recall 54 = .ok (.iaload, 1) := by decide +kernel
theorem dM_recall_55 : decode cM_recall 55 = .ok (.ifCond .ne 26, 3) := by decide +kernel
theorem dM_recall_58 : decode cM_recall 58 = .ok (.aload_n 0, 1) := by decide +kernel
theorem dM_recall_59 : decode cM_recall 59 = .ok (.getfield 54, 3) := by decide +kernel
theorem dM_recall_62 : decode cM_recall 62 = .ok (.iload 4, 2) := by decide +kernel
theorem dM_recall_64 : decode cM_recall 64 = .ok (.laload, 1) := by decide +kernel
theorem dM_recall_65 : decode cM_recall 65 = .ok (.lconst 0, 1) := by decide +kernel
theorem dM_recall_66 : decode cM_recall 66 = .ok (.lcmp, 1) := by decide +kernel
theorem dM_recall_67 : decode cM_recall 67 = .ok (.ifCond .lt 14, 3) := by decide +kernel
theorem dM_recall_70 : decode cM_recall 70 = .ok (.iload_n 3, 1) := by decide +kernel
theorem dM_recall_71 : decode cM_recall 71 = .ok (.iload_n 2, 1) := by decide +kernel
theorem dM_recall_72 : decode cM_recall 72 = .ok (.if_icmp .ne 6, 3) := by decide +kernel
theorem dM_recall_75 : decode cM_recall 75 = .ok (.iload 4, 2) := by decide +kernel
theorem dM_recall_77 : decode cM_recall 77 = .ok (.ireturn, 1) := by decide +kernel
theorem dM_recall_78 : decode cM_recall 78 = .ok (.iinc 3 1, 3) := by decide +kernel
theorem dM_recall_81 : decode cM_recall 81 = .ok (.iinc 4 1, 3) := by decide +kernel
theorem dM_recall_84 : decode cM_recall 84 = .ok (.goto (-45), 3) := by decide +kernel
theorem dM_recall_87 : decode cM_recall 87 = .ok (.iconst (-1), 1) := by decide +kernel
theorem dM_recall_88 : decode cM_recall 88 = .ok (.ireturn, 1) := by decide +kernel
theorem dM_told_0 : decode cM_told 0 = .ok (.aload_n 0, 1) := by decide +kernel
theorem dM_told_1 : decode cM_told 1 = .ok (.iload_n 1, 1) := by decide +kernel
theorem dM_told_2 : decode cM_told 2 = .ok (.iconst 0, 1) := by decide +kernel
theorem dM_told_3 : decode cM_told 3 = .ok (.iconst 2, 1) := by decide +kernel
theorem dM_told_4 : decode cM_told 4 = .ok (.invokestatic 67, 3) := by decide +kernel
theorem dM_told_7 : decode cM_told 7 = .ok (.ifCond .ne 7, 3) := by decide +kernel
theorem dM_told_10 : decode cM_told 10 = .ok (.iconst 1, 1) := by decide +kernel
theorem dM_told_11 : decode cM_told 11 = .ok (.goto 4, 3) := by decide +kernel
theorem dM_told_14 : decode cM_told 14 = .ok (.iconst 0, 1) := by decide +kernel
theorem dM_told_15 : decode cM_told 15 = .ok (.iconst 0, 1) := by decide +kernel
theorem dM_told_16 : decode cM_told 16 = .ok (.iconst 0, 1) := by decide +kernel
theorem dM_told_17 : decode cM_told 17 = .ok (.iconst 0, 1) := by decide +kernel
theorem dM_told_18 : decode cM_told 18 = .ok (.invokevirtual 76, 3) := by decide +kernel
theorem dM_told_21 : decode cM_told 21 = .ok (.ifCond .eq 5, 3) := by decide +kernel
theorem dM_told_24 : decode cM_told 24 = .ok (.lconst 0, 1) := by decide +kernel
theorem dM_told_25 : decode cM_told 25 = .ok (.lreturn, 1) := by decide +kernel
theorem dM_told_26 : decode cM_told 26 = .ok (.iload_n 1, 1) := by decide +kernel
theorem dM_told_27 : decode cM_told 27 = .ok (.ifCond .le 21, 3) := by decide +kernel
theorem dM_told_30 : decode cM_told 30 = .ok (.iload_n 1, 1) := by decide +kernel
theorem dM_told_31 : decode cM_told 31 = .ok (.iconst 1, 1) := by decide +kernel
theorem dM_told_32 : decode cM_told 32 = .ok (.if_icmp .ne 11, 3) := by decide +kernel
theorem dM_told_35 : decode cM_told 35 = .ok (.aload_n 0, 1) := by decide +kernel
theorem dM_told_36 : decode cM_told 36 = .ok (.getfield 94, 3) := by decide +kernel
theorem dM_told_39 : decode cM_told 39 = .ok (.i2l, 1) := by decide +kernel
theorem dM_told_40 : decode cM_told 40 = .ok (.goto 7, 3) := by decide +kernel
theorem dM_told_43 : decode cM_told 43 = .ok (.aload_n 0, 1) := by decide +kernel
theorem dM_told_44 : decode cM_told 44 = .ok (.getfield 80, 3) := by decide +kernel
theorem dM_told_47 : decode cM_told 47 = .ok (.lreturn, 1) := by decide +kernel
theorem dM_told_48 : decode cM_told 48 = .ok (.lconst 0, 1) := by decide +kernel
theorem dM_told_49 : decode cM_told 49 = .ok (.lstore_n 2, 1) := by decide +kernel
theorem dM_told_50 : decode cM_told 50 = .ok (.iconst 0, 1) := by decide +kernel
theorem dM_told_51 : decode cM_told 51 = .ok (.istore 4, 2) := by decide +kernel
theorem dM_told_53 : decode cM_told 53 = .ok (.iload 4, 2) := by decide +kernel
theorem dM_told_55 : decode cM_told 55 = .ok (.aload_n 0, 1) := by decide +kernel
theorem dM_told_56 : decode cM_told 56 = .ok (.getfield 64, 3) := by decide +kernel
theorem dM_told_59 : decode cM_told 59 = .ok (.if_icmp .ge 34, 3) := by decide +kernel
theorem dM_told_62 : decode cM_told 62 = .ok (.lload_n 2, 1) := by decide +kernel
theorem dM_told_63 : decode cM_told 63 = .ok (.aload_n 0, 1) := by decide +kernel
theorem dM_told_64 : decode cM_told 64 = .ok (.getfield 19, 3) := by decide +kernel
theorem dM_told_67 : decode cM_told 67 = .ok (.iload 4, 2) := by decide +kernel
theorem dM_told_69 : decode cM_told 69 = .ok (.iaload, 1) := by decide +kernel
theorem dM_told_70 : decode cM_told 70 = .ok (.ifCond .ne 14, 3) := by decide +kernel
theorem dM_told_73 : decode cM_told 73 = .ok (.aload_n 0, 1) := by decide +kernel
theorem dM_told_74 : decode cM_told 74 = .ok (.getfield 13, 3) := by decide +kernel
theorem dM_told_77 : decode cM_told 77 = .ok (.iload 4, 2) := by decide +kernel
theorem dM_told_79 : decode cM_told 79 = .ok (.iaload, 1) := by decide +kernel
theorem dM_told_80 : decode cM_told 80 = .ok (.i2l, 1) := by decide +kernel
theorem dM_told_81 : decode cM_told 81 = .ok (.goto 4, 3) := by decide +kernel
theorem dM_told_84 : decode cM_told 84 = .ok (.lconst 0, 1) := by decide +kernel
theorem dM_told_85 : decode cM_told 85 = .ok (.ladd, 1) := by decide +kernel
theorem dM_told_86 : decode cM_told 86 = .ok (.lstore_n 2, 1) := by decide +kernel
theorem dM_told_87 : decode cM_told 87 = .ok (.iinc 4 1, 3) := by decide +kernel
theorem dM_told_90 : decode cM_told 90 = .ok (.goto (-37), 3) := by decide +kernel
theorem dM_told_93 : decode cM_told 93 = .ok (.lload_n 2, 1) := by decide +kernel
theorem dM_told_94 : decode cM_told 94 = .ok (.lreturn, 1) := by decide +kernel
