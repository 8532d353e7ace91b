theorem dL_melt_0 : decode cL_melt 0 = .ok (.aload_n 3, 1) := by decide +kernel
theorem dL_melt_1 : decode cL_melt 1 = .ok (.iconst 0, 1) := by decide +kernel
theorem dL_melt_2 : decode cL_melt 2 = .ok (.aload_n 0, 1) := by decide +kernel
theorem dL_melt_3 : decode cL_melt 3 = .ok (.iload_n 1, 1) := by decide +kernel
theorem dL_melt_4 : decode cL_melt 4 = .ok (.iload_n 2, 1) := by decide +kernel
theorem dL_melt_5 : decode cL_melt 5 = .ok (.invokevirtual 7, 3) := by decide +kernel
theorem dL_melt_8 : decode cL_melt 8 = .ok (.i2l, 1) := by decide +kernel
theorem dL_melt_9 : decode cL_melt 9 = .ok (.lastore, 1) := by decide +kernel
theorem dL_melt_10 : decode cL_melt 10 = .ok (.goto 11, 3) := by decide +kernel
theorem dL_melt_13 : decode cL_melt 13 = .ok (.astore 4, 2) := by decide +kernel
theorem dL_melt_15 : decode cL_melt 15 = .ok (.iconst 1, 1) := by decide +kernel
theorem dL_melt_16 : decode cL_melt 16 = .ok (.ireturn, 1) := by decide +kernel
theorem dL_melt_17 : decode cL_melt 17 = .ok (.astore 4, 2) := by decide +kernel
theorem dL_melt_19 : decode cL_melt 19 = .ok (.iconst 2, 1) := by decide +kernel
theorem dL_melt_20 : decode cL_melt 20 = .ok (.ireturn, 1) := by decide +kernel
theorem dL_melt_21 : decode cL_melt 21 = .ok (.iconst 0, 1) := by decide +kernel
theorem dL_melt_22 : decode cL_melt 22 = .ok (.ireturn, 1) := by decide +kernel
theorem dL_cut_0 : decode cL_cut 0 = .ok (.aload_n 3, 1) := by decide +kernel
theorem dL_cut_1 : decode cL_cut 1 = .ok (.iconst 0, 1) := by decide +kernel
theorem dL_cut_2 : decode cL_cut 2 = .ok (.aload_n 0, 1) := by decide +kernel
theorem dL_cut_3 : decode cL_cut 3 = .ok (.iload_n 1, 1) := by decide +kernel
theorem dL_cut_4 : decode cL_cut 4 = .ok (.iload_n 2, 1) := by decide +kernel
theorem dL_cut_5 : decode cL_cut 5 = .ok (.invokevirtual 17, 3) := by decide +kernel
theorem dL_cut_8 : decode cL_cut 8 = .ok (.i2l, 1) := by decide +kernel
theorem dL_cut_9 : decode cL_cut 9 = .ok (.lastore, 1) := by decide +kernel
theorem dL_cut_10 : decode cL_cut 10 = .ok (.goto 19, 3) := by decide +kernel
theorem dL_cut_13 : decode cL_cut 13 = .ok (.astore 4, 2) := by decide +kernel
theorem dL_cut_15 : decode cL_cut 15 = .ok (.iconst 1, 1) := by decide +kernel
theorem dL_cut_16 : decode cL_cut 16 = .ok (.ireturn, 1) := by decide +kernel
theorem dL_cut_17 : decode cL_cut 17 = .ok (.astore 4, 2) := by decide +kernel
theorem dL_cut_19 : decode cL_cut 19 = .ok (.iconst 2, 1) := by decide +kernel
theorem dL_cut_20 : decode cL_cut 20 = .ok (.ireturn, 1) := by decide +kernel
theorem dL_cut_21 : decode cL_cut 21 = .ok (.astore 4, 2) := by decide +kernel
theorem dL_cut_23 : decode cL_cut 23 = .ok (.iconst 3, 1) := by decide +kernel
theorem dL_cut_24 : decode cL_cut 24 = .ok (.ireturn, 1) := by decide +kernel
theorem dL_cut_25 : decode cL_cut 25 = .ok (.astore 4, 2) := by decide +kernel
theorem dL_cut_27 : decode cL_cut 27 = .ok (.iconst 4, 1) := by decide +kernel
theorem dL_cut_28 : decode cL_cut 28 = .ok (.ireturn, 1) := by decide +kernel
theorem dL_cut_29 : decode cL_cut 29 = .ok (.iconst 0, 1) := by decide +kernel
theorem dL_cut_30 : decode cL_cut 30 = .ok (.ireturn, 1) := by decide +kernel
theorem dL_weld_0 : decode cL_weld 0 = .ok (.aload_n 3, 1) := by decide +kernel
theorem dL_weld_1 : decode cL_weld 1 = .ok (.iconst 0, 1) := by decide +kernel
theorem dL_weld_2 : decode cL_weld 2 = .ok (.aload_n 0, 1) := by decide +kernel
theorem dL_weld_3 : decode cL_weld 3 = .ok (.iload_n 1, 1) := by decide +kernel
theorem dL_weld_4 : decode cL_weld 4 = .ok (.iload_n 2, 1) := by decide +kernel
theorem dL_weld_5 : decode cL_weld 5 = .ok (.invokevirtual 24, 3) := by decide +kernel
theorem dL_weld_8 : decode cL_weld 8 = .ok (.i2l, 1) := by decide +kernel
theorem dL_weld_9 : decode cL_weld 9 = .ok (.lastore, 1) := by decide +kernel
theorem dL_weld_10 : decode cL_weld 10 = .ok (.goto 15, 3) := by decide +kernel
theorem dL_weld_13 : decode cL_weld 13 = .ok (.astore 4, 2) := by decide +kernel
theorem dL_weld_15 : decode cL_weld 15 = .ok (.iconst 1, 1) := by decide +kernel
theorem dL_weld_16 : decode cL_weld 16 = .ok (.ireturn, 1) := by decide +kernel
theorem dL_weld_17 : decode cL_weld 17 = .ok (.astore 4, 2) := by decide +kernel
theorem dL_weld_19 : decode cL_weld 19 = .ok (.iconst 2, 1) := by decide +kernel
theorem dL_weld_20 : decode cL_weld 20 = .ok (.ireturn, 1) := by decide +kernel
theorem dL_weld_21 : decode cL_weld 21 = .ok (.astore 4, 2) := by decide +kernel
theorem dL_weld_23 : decode cL_weld 23 = .ok (.iconst 3, 1) := by decide +kernel
theorem dL_weld_24 : decode cL_weld 24 = .ok (.ireturn, 1) := by decide +kernel
theorem dL_weld_25 : decode cL_weld 25 = .ok (.iconst 0, 1) := by decide +kernel
theorem dL_weld_26 : decode cL_weld 26 = .ok (.ireturn, 1) := by decide +kernel
theorem dL_roll_0 : decode cL_roll 0 = .ok (.aload 4, 2) := by decide +kernel
theorem dL_roll_2 : decode cL_roll 2 = .ok (.iconst 0, 1) := by decide +kernel
theorem dL_roll_3 : decode cL_roll 3 = .ok (.aload_n 0, 1) := by decide +kernel
theorem dL_roll_4 : decode cL_roll 4 = .ok (.iload_n 1, 1) := by decide +kernel
theorem dL_roll_5 : decode cL_roll 5 = .ok (.iload_n 2, 1) := by decide +kernel
theorem dL_roll_6 : decode cL_roll 6 = .ok (.iload_n 3, 1) := by decide +kernel
theorem dL_roll_7 : decode cL_roll 7 = .ok (.invokevirtual 27, 3) := by decide +kernel
theorem dL_roll_10 : decode cL_roll 10 = .ok (.i2l, 1) := by decide +kernel
theorem dL_roll_11 : decode cL_roll 11 = .ok (.lastore, 1) := by decide +kernel
theorem dL_roll_12 : decode cL_roll 12 = .ok (.goto 19, 3) := by decide +kernel
theorem dL_roll_15 : decode cL_roll 15 = .ok (.astore 5, 2) := by decide +kernel
theorem dL_roll_17 : decode cL_roll 17 = .ok (.iconst 1, 1) := by decide +kernel
theorem dL_roll_18 : decode cL_roll 18 = .ok (.ireturn, 1) := by decide +kernel
theorem dL_roll_19 : decode cL_roll 19 = .ok (.astore 5, 2) := by decide +kernel
theorem dL_roll_21 : decode cL_roll 21 = .ok (.iconst 2, 1) := by decide +kernel
theorem dL_roll_22 : decode cL_roll 22 = .ok (.ireturn, 1) := by decide +kernel
theorem dL_roll_23 : decode cL_roll 23 = .ok (.astore 5, 2) := by decide +kernel
theorem dL_roll_25 : decode cL_roll 25 = .ok (.iconst 3, 1) := by decide +kernel
theorem dL_roll_26 : decode cL_roll 26 = .ok (.ireturn, 1) := by decide +kernel
theorem dL_roll_27 : decode cL_roll 27 = .ok (.astore 5, 2) := by decide +kernel
theorem dL_roll_29 : decode cL_roll 29 = .ok (.iconst 4, 1) := by decide +kernel
theorem dL_roll_30 : decode cL_roll 30 = .ok (.ireturn, 1) := by decide +kernel
theorem dL_roll_31 : decode cL_roll 31 = .ok (.iconst 0, 1) := by decide +kernel
theorem dL_roll_32 : decode cL_roll 32 = .ok (.ireturn, 1) := by decide +kernel
theorem dL_slit_0 : decode cL_slit 0 = .ok (.aload_n 3, 1) := by decide +kernel
theorem dL_slit_1 : decode cL_slit 1 = .ok (.iconst 0, 1) := by decide +kernel
theorem dL_slit_2 : decode cL_slit 2 = .ok (.aload_n 0, 1) := by decide +kernel
theorem dL_slit_3 : decode cL_slit 3 = .ok (.iload_n 1, 1) := by decide +kernel
theorem dL_slit_4 : decode cL_slit 4 = .ok (.iload_n 2, 1) := by decide +kernel
theorem dL_slit_5 : decode cL_slit 5 = .ok (.invokevirtual 31, 3) := by decide +kernel
theorem dL_slit_8 : decode cL_slit 8 = .ok (.i2l, 1) := by decide +kernel
theorem dL_slit_9 : decode cL_slit 9 = .ok (.lastore, 1) := by decide +kernel
theorem dL_slit_10 : decode cL_slit 10 = .ok (.goto 19, 3) := by decide +kernel
theorem dL_slit_13 : decode cL_slit 13 = .ok (.astore 4, 2) := by decide +kernel
theorem dL_slit_15 : decode cL_slit 15 = .ok (.iconst 1, 1) := by decide +kernel
theorem dL_slit_16 : decode cL_slit 16 = .ok (.ireturn, 1) := by decide +kernel
theorem dL_slit_17 : decode cL_slit 17 = .ok (.astore 4, 2) := by decide +kernel
theorem dL_slit_19 : decode cL_slit 19 = .ok (.iconst 2, 1) := by decide +kernel
theorem dL_slit_20 : decode cL_slit 20 = .ok (.ireturn, 1) := by decide +kernel
theorem dL_slit_21 : decode cL_slit 21 = .ok (.astore 4, 2) := by decide +kernel
theorem dL_slit_23 : decode cL_slit 23 = .ok (.iconst 3, 1) := by decide +kernel
theorem dL_slit_24 : decode cL_slit 24 = .ok (.ireturn, 1) := by decide +kernel
theorem dL_slit_25 : decode cL_slit 25 = .ok (.astore 4, 2) := by decide +kernel
theorem dL_slit_27 : decode cL_slit 27 = .ok (.iconst 4, 1) := by decide +kernel
theorem dL_slit_28 : decode cL_slit 28 = .ok (.ireturn, 1) := by decide +kernel
theorem dL_slit_29 : decode cL_slit 29 = .ok (.iconst 0, 1) := by decide +kernel
theorem dL_slit_30 : decode cL_slit 30 = .ok (.ireturn, 1) := by decide +kernel
theorem dL_hold_0 : decode cL_hold 0 = .ok (.aload_n 0, 1) := by decide +kernel
theorem dL_hold_1 : decode cL_hold 1 = .ok (.iload_n 1, 1) := by decide +kernel
theorem dL_hold_2 : decode cL_hold 2 = .ok (.iload_n 2, 1) := by decide +kernel
theorem dL_hold_3 : decode cL_hold 3 = .ok (.invokevirtual 34, 3) := by decide +kernel
theorem dL_hold_6 : decode cL_hold 6 = .ok (.goto 9, 3) := by decide +kernel
theorem dL_hold_9 : decode cL_hold 9 = .ok (.astore_n 3, 1) := by decide +kernel
theorem dL_hold_10 : decode cL_hold 10 = .ok (.iconst 1, 1) := by decide +kernel
theorem dL_hold_11 : decode cL_hold 11 = .ok (.ireturn, 1) := by decide +kernel
theorem dL_hold_12 : decode cL_hold 12 = .ok (.astore_n 3, 1) := by decide +kernel
theorem dL_hold_13 : decode cL_hold 13 = .ok (.iconst 2, 1) := by decide +kernel
theorem dL_hold_14 : decode cL_hold 14 = .ok (.ireturn, 1) := by decide +kernel
theorem dL_hold_15 : decode cL_hold 15 = .ok (.iconst 0, 1) := by decide +kernel
theorem dL_hold_16 : decode cL_hold 16 = .ok (.ireturn, 1) := by decide +kernel
theorem dL_scrap_0 : decode cL_scrap 0 = .ok (.aload_n 2, 1) := by decide +kernel
theorem dL_scrap_1 : decode cL_scrap 1 = .ok (.iconst 0, 1) := by decide +kernel
theorem dL_scrap_2 : decode cL_scrap 2 = .ok (.aload_n 0, 1) := by decide +kernel
theorem dL_scrap_3 : decode cL_scrap 3 = .ok (.iload_n 1, 1) := by decide +kernel
theorem dL_scrap_4 : decode cL_scrap 4 = .ok (.invokevirtual 38, 3) := by decide +kernel
theorem dL_scrap_7 : decode cL_scrap 7 = .ok (.i2l, 1) := by decide +kernel
theorem dL_scrap_8 : decode cL_scrap 8 = .ok (.lastore, 1) := by decide +kernel
theorem dL_scrap_9 : decode cL_scrap 9 = .ok (.goto 9, 3) := by decide +kernel
theorem dL_scrap_12 : decode cL_scrap 12 = .ok (.astore_n 3, 1) := by decide +kernel
theorem dL_scrap_13 : decode cL_scrap 13 = .ok (.iconst 1, 1) := by decide +kernel
theorem dL_scrap_14 : decode cL_scrap 14 = .ok (.ireturn, 1) := by decide +kernel
theorem dL_scrap_15 : decode cL_scrap 15 = .ok (.astore_n 3, 1) := by decide +kernel
theorem dL_scrap_16 : decode cL_scrap 16 = .ok (.iconst 2, 1) := by decide +kernel
theorem dL_scrap_17 : decode cL_scrap 17 = .ok (.ireturn, 1) := by decide +kernel
theorem dL_scrap_18 : decode cL_scrap 18 = .ok (.iconst 0, 1) := by decide +kernel
theorem dL_scrap_19 : decode cL_scrap 19 = .ok (.ireturn, 1) := by decide +kernel
theorem dL_back_0 : decode cL_back 0 = .ok (.aload_n 3, 1) := by decide +kernel
theorem dL_back_1 : decode cL_back 1 = .ok (.iconst 0, 1) := by decide +kernel
theorem dL_back_2 : decode cL_back 2 = .ok (.aload_n 0, 1) := by decide +kernel
theorem dL_back_3 : decode cL_back 3 = .ok (.iload_n 1, 1) := by decide +kernel
theorem dL_back_4 : decode cL_back 4 = .ok (.iload_n 2, 1) := by decide +kernel
theorem dL_back_5 : decode cL_back 5 = .ok (.invokevirtual 42, 3) := by decide +kernel
theorem dL_back_8 : decode cL_back 8 = .ok (.i2l, 1) := by decide +kernel
theorem dL_back_9 : decode cL_back 9 = .ok (.lastore, 1) := by decide +kernel
theorem dL_back_10 : decode cL_back 10 = .ok (.goto 11, 3) := by decide +kernel
theorem dL_back_13 : decode cL_back 13 = .ok (.astore 4, 2) := by decide +kernel
theorem dL_back_15 : decode cL_back 15 = .ok (.iconst 1, 1) := by decide +kernel
theorem dL_back_16 : decode cL_back 16 = .ok (.ireturn, 1) := by decide +kernel
theorem dL_back_17 : decode cL_back 17 = .ok (.astore 4, 2) := by decide +kernel
theorem dL_back_19 : decode cL_back 19 = .ok (.iconst 2, 1) := by decide +kernel
theorem dL_back_20 : decode cL_back 20 = .ok (.ireturn, 1) := by decide +kernel
theorem dL_back_21 : decode cL_back 21 = .ok (.iconst 0, 1) := by decide +kernel
theorem dL_back_22 : decode cL_back 22 = .ok (.ireturn, 1) := by decide +kernel
theorem dL_at_0 : decode cL_at 0 = .ok (.aload_n 3, 1) := by decide +kernel
theorem dL_at_1 : decode cL_at 1 = .ok (.iconst 0, 1) := by decide +kernel
theorem dL_at_2 : decode cL_at 2 = .ok (.aload_n 0, 1) := by decide +kernel
theorem dL_at_3 : decode cL_at 3 = .ok (.iload_n 1, 1) := by decide +kernel
theorem dL_at_4 : decode cL_at 4 = .ok (.iload_n 2, 1) := by decide +kernel
theorem dL_at_5 : decode cL_at 5 = .ok (.invokevirtual 45, 3) := by decide +kernel
theorem dL_at_8 : decode cL_at 8 = .ok (.i2l, 1) := by decide +kernel
theorem dL_at_9 : decode cL_at 9 = .ok (.lastore, 1) := by decide +kernel
theorem dL_at_10 : decode cL_at 10 = .ok (.goto 7, 3) := by decide +kernel
theorem dL_at_13 : decode cL_at 13 = .ok (.astore 4, 2) := by decide +kernel
theorem dL_at_15 : decode cL_at 15 = .ok (.iconst 1, 1) := by decide +kernel
theorem dL_at_16 : decode cL_at 16 = .ok (.ireturn, 1) := by decide +kernel
theorem dL_at_17 : decode cL_at 17 = .ok (.iconst 0, 1) := by decide +kernel
theorem dL_at_18 : decode cL_at 18 = .ok (.ireturn, 1) := by decide +kernel
theorem dL_origin_0 : decode cL_origin 0 = .ok (.aload 4, 2) := by decide +kernel
theorem dL_origin_2 : decode cL_origin 2 = .ok (.iconst 0, 1) := by decide +kernel
theorem dL_origin_3 : decode cL_origin 3 = .ok (.aload_n 0, 1) := by decide +kernel
theorem dL_origin_4 : decode cL_origin 4 = .ok (.iload_n 1, 1) := by decide +kernel
theorem dL_origin_5 : decode cL_origin 5 = .ok (.iload_n 2, 1) := by decide +kernel
theorem dL_origin_6 : decode cL_origin 6 = .ok (.iload_n 3, 1) := by decide +kernel
theorem dL_origin_7 : decode cL_origin 7 = .ok (.invokevirtual 48, 3) := by decide +kernel
theorem dL_origin_10 : decode cL_origin 10 = .ok (.lastore, 1) := by decide +kernel
theorem dL_origin_11 : decode cL_origin 11 = .ok (.goto 11, 3) := by decide +kernel
theorem dL_origin_14 : decode cL_origin 14 = .ok (.astore 5, 2) := by decide +kernel
theorem dL_origin_16 : decode cL_origin 16 = .ok (.iconst 1, 1) := by decide +kernel
theorem dL_origin_17 : decode cL_origin 17 = .ok (.ireturn, 1) := by decide +kernel
theorem dL_origin_18 : decode cL_origin 18 = .ok (.astore 5, 2) := by decide +kernel
theorem dL_origin_20 : decode cL_origin 20 = .ok (.iconst 2, 1) := by decide +kernel
theorem dL_origin_21 : decode cL_origin 21 = .ok (.ireturn, 1) := by decide +kernel
theorem dL_origin_22 : decode cL_origin 22 = .ok (.iconst 0, 1) := by decide +kernel
theorem dL_origin_23 : decode cL_origin 23 = .ok (.ireturn, 1) := by decide +kernel
theorem dL_defect_0 : decode cL_defect 0 = .ok (.aload_n 3, 1) := by decide +kernel
theorem dL_defect_1 : decode cL_defect 1 = .ok (.iconst 0, 1) := by decide +kernel
theorem dL_defect_2 : decode cL_defect 2 = .ok (.aload_n 0, 1) := by decide +kernel
theorem dL_defect_3 : decode cL_defect 3 = .ok (.iload_n 1, 1) := by decide +kernel
theorem dL_defect_4 : decode cL_defect 4 = .ok (.iload_n 2, 1) := by decide +kernel
theorem dL_defect_5 : decode cL_defect 5 = .ok (.invokevirtual 52, 3) := by decide +kernel
theorem dL_defect_8 : decode cL_defect 8 = .ok (.i2l, 1) := by decide +kernel
theorem dL_defect_9 : decode cL_defect 9 = .ok (.lastore, 1) := by decide +kernel
theorem dL_defect_10 : decode cL_defect 10 = .ok (.goto 15, 3) := by decide +kernel
theorem dL_defect_13 : decode cL_defect 13 = .ok (.astore 4, 2) := by decide +kernel
theorem dL_defect_15 : decode cL_defect 15 = .ok (.iconst 1, 1) := by decide +kernel
theorem dL_defect_16 : decode cL_defect 16 = .ok (.ireturn, 1) := by decide +kernel
theorem dL_defect_17 : decode cL_defect 17 = .ok (.astore 4, 2) := by decide +kernel
theorem dL_defect_19 : decode cL_defect 19 = .ok (.iconst 2, 1) := by decide +kernel
theorem dL_defect_20 : decode cL_defect 20 = .ok (.ireturn, 1) := by decide +kernel
theorem dL_defect_21 : decode cL_defect 21 = .ok (.astore 4, 2) := by decide +kernel
theorem dL_defect_23 : decode cL_defect 23 = .ok (.iconst 3, 1) := by decide +kernel
theorem dL_defect_24 : decode cL_defect 24 = .ok (.ireturn, 1) := by decide +kernel
theorem dL_defect_25 : decode cL_defect 25 = .ok (.iconst 0, 1) := by decide +kernel
theorem dL_defect_26 : decode cL_defect 26 = .ok (.ireturn, 1) := by decide +kernel
theorem dL_has_0 : decode cL_has 0 = .ok (.aload 4, 2) := by decide +kernel
theorem dL_has_2 : decode cL_has 2 = .ok (.iconst 0, 1) := by decide +kernel
theorem dL_has_3 : decode cL_has 3 = .ok (.aload_n 0, 1) := by decide +kernel
theorem dL_has_4 : decode cL_has 4 = .ok (.iload_n 1, 1) := by decide +kernel
theorem dL_has_5 : decode cL_has 5 = .ok (.iload_n 2, 1) := by decide +kernel
theorem dL_has_6 : decode cL_has 6 = .ok (.iload_n 3, 1) := by decide +kernel
theorem dL_has_7 : decode cL_has 7 = .ok (.invokevirtual 55, 3) := by decide +kernel
theorem dL_has_10 : decode cL_has 10 = .ok (.lastore, 1) := by decide +kernel
theorem dL_has_11 : decode cL_has 11 = .ok (.goto 7, 3) := by decide +kernel
theorem dL_has_14 : decode cL_has 14 = .ok (.astore 5, 2) := by decide +kernel
theorem dL_has_16 : decode cL_has 16 = .ok (.iconst 1, 1) := by decide +kernel
theorem dL_has_17 : decode cL_has 17 = .ok (.ireturn, 1) := by decide +kernel
theorem dL_has_18 : decode cL_has 18 = .ok (.iconst 0, 1) := by decide +kernel
theorem dL_has_19 : decode cL_has 19 = .ok (.ireturn, 1) := by decide +kernel
theorem dL_recall_0 : decode cL_recall 0 = .ok (.aload_n 3, 1) := by decide +kernel
theorem dL_recall_1 : decode cL_recall 1 = .ok (.iconst 0, 1) := by decide +kernel
theorem dL_recall_2 : decode cL_recall 2 = .ok (.aload_n 0, 1) := by decide +kernel
theorem dL_recall_3 : decode cL_recall 3 = .ok (.iload_n 1, 1) := by decide +kernel
theorem dL_recall_4 : decode cL_recall 4 = .ok (.iload_n 2, 1) := by decide +kernel
theorem dL_recall_5 : decode cL_recall 5 = .ok (.invokevirtual 58, 3) := by decide +kernel
theorem dL_recall_8 : decode cL_recall 8 = .ok (.i2l, 1) := by decide +kernel
theorem dL_recall_9 : decode cL_recall 9 = .ok (.lastore, 1) := by decide +kernel
theorem dL_recall_10 : decode cL_recall 10 = .ok (.goto 7, 3) := by decide +kernel
theorem dL_recall_13 : decode cL_recall 13 = .ok (.astore 4, 2) := by decide +kernel
theorem dL_recall_15 : decode cL_recall 15 = .ok (.iconst 1, 1) := by decide +kernel
theorem dL_recall_16 : decode cL_recall 16 = .ok (.ireturn, 1) := by decide +kernel
theorem dL_recall_17 : decode cL_recall 17 = .ok (.iconst 0, 1) := by decide +kernel
theorem dL_recall_18 : decode cL_recall 18 = .ok (.ireturn, 1) := by decide +kernel
theorem dL_told_0 : decode cL_told 0 = .ok (.aload_n 2, 1) := by decide +kernel
theorem dL_told_1 : decode cL_told 1 = .ok (.iconst 0, 1) := by decide +kernel
theorem dL_told_2 : decode cL_told 2 = .ok (.aload_n 0, 1) := by decide +kernel
theorem dL_told_3 : decode cL_told 3 = .ok (.iload_n 1, 1) := by decide +kernel
theorem dL_told_4 : decode cL_told 4 = .ok (.invokevirtual 61, 3) := by decide +kernel
theorem dL_told_7 : decode cL_told 7 = .ok (.lastore, 1) := by decide +kernel
theorem dL_told_8 : decode cL_told 8 = .ok (.goto 6, 3) := by decide +kernel
theorem dL_told_11 : decode cL_told 11 = .ok (.astore_n 3, 1) := by decide +kernel
theorem dL_told_12 : decode cL_told 12 = .ok (.iconst 1, 1) := by decide +kernel
theorem dL_told_13 : decode cL_told 13 = .ok (.ireturn, 1) := by decide +kernel
theorem dL_told_14 : decode cL_told 14 = .ok (.iconst 0, 1) := by decide +kernel
theorem dL_told_15 : decode cL_told 15 = .ok (.ireturn, 1) := by decide +kernel
theorem dL_law_0 : decode code 0 = .ok (.new 8, 3) := by decide +kernel
theorem dL_law_3 : decode code 3 = .ok (.dup, 1) := by decide +kernel
theorem dL_law_4 : decode code 4 = .ok (.invokespecial 65, 3) := by decide +kernel
theorem dL_law_7 : decode code 7 = .ok (.astore_n 1, 1) := by decide +kernel
theorem dL_law_8 : decode code 8 = .ok (.new 66, 3) := by decide +kernel
theorem dL_law_11 : decode code 11 = .ok (.dup, 1) := by decide +kernel
theorem dL_law_12 : decode code 12 = .ok (.invokespecial 68, 3) := by decide +kernel
theorem dL_law_15 : decode code 15 = .ok (.astore_n 2, 1) := by decide +kernel
theorem dL_law_16 : decode code 16 = .ok (.iconst 1, 1) := by decide +kernel
theorem dL_law_17 : decode code 17 = .ok (.newarray .long, 2) := by decide +kernel
theorem dL_law_19 : decode code 19 = .ok (.astore_n 3, 1) := by decide +kernel
theorem dL_law_20 : decode code 20 = .ok (.iconst 0, 1) := by decide +kernel
theorem dL_law_21 : decode code 21 = .ok (.istore 4, 2) := by decide +kernel
theorem dL_law_23 : decode code 23 = .ok (.iload 4, 2) := by decide +kernel
theorem dL_law_25 : decode code 25 = .ok (.aload_n 0, 1) := by decide +kernel
theorem dL_law_26 : decode code 26 = .ok (.arraylength, 1) := by decide +kernel
theorem dL_law_27 : decode code 27 = .ok (.iconst 4, 1) := by decide +kernel
theorem dL_law_28 : decode code 28 = .ok (.isub, 1) := by decide +kernel
theorem dL_law_29 : decode code 29 = .ok (.if_icmp .gt 1042, 3) := by decide +kernel
theorem dL_law_32 : decode code 32 = .ok (.aload_n 0, 1) := by decide +kernel
theorem dL_law_33 : decode code 33 = .ok (.iload 4, 2) := by decide +kernel
theorem dL_law_35 : decode code 35 = .ok (.iaload, 1) := by decide +kernel
theorem dL_law_36 : decode code 36 = .ok (.bipush 15, 2) := by decide +kernel
theorem dL_law_38 : decode code 38 = .ok (.iand, 1) := by decide +kernel
theorem dL_law_39 : decode code 39 = .ok (.tableswitch 1026 0 13 #[69, 137, 205, 273, 353, 421, 485, 541, 609, 677, 756, 824, 903, 971], 69) := by decide +kernel
theorem dL_law_108 : decode code 108 = .ok (.aload_n 1, 1) := by decide +kernel
theorem dL_law_109 : decode code 109 = .ok (.aload_n 0, 1) := by decide +kernel
theorem dL_law_110 : decode code 110 = .ok (.iload 4, 2) := by decide +kernel
theorem dL_law_112 : decode code 112 = .ok (.iconst 1, 1) := by decide +kernel
theorem dL_law_113 : decode code 113 = .ok (.iadd, 1) := by decide +kernel
theorem dL_law_114 : decode code 114 = .ok (.iaload, 1) := by decide +kernel
theorem dL_law_115 : decode code 115 = .ok (.aload_n 0, 1) := by decide +kernel
theorem dL_law_116 : decode code 116 = .ok (.iload 4, 2) := by decide +kernel
theorem dL_law_118 : decode code 118 = .ok (.iconst 2, 1) := by decide +kernel
theorem dL_law_119 : decode code 119 = .ok (.iadd, 1) := by decide +kernel
theorem dL_law_120 : decode code 120 = .ok (.iaload, 1) := by decide +kernel
theorem dL_law_121 : decode code 121 = .ok (.aload_n 3, 1) := by decide +kernel
theorem dL_law_122 : decode code 122 = .ok (.invokestatic 69, 3) := by decide +kernel
theorem dL_law_125 : decode code 125 = .ok (.istore 5, 2) := by decide +kernel
theorem dL_law_127 : decode code 127 = .ok (.aload_n 2, 1) := by decide +kernel
theorem dL_law_128 : decode code 128 = .ok (.aload_n 0, 1) := by decide +kernel
theorem dL_law_129 : decode code 129 = .ok (.iload 4, 2) := by decide +kernel
theorem dL_law_131 : decode code 131 = .ok (.iconst 1, 1) := by decide +kernel
theorem dL_law_132 : decode code 132 = .ok (.iadd, 1) := by decide +kernel
theorem dL_law_133 : decode code 133 = .ok (.iaload, 1) := by decide +kernel
theorem dL_law_134 : decode code 134 = .ok (.aload_n 0, 1) := by decide +kernel
theorem dL_law_135 : decode code 135 = .ok (.iload 4, 2) := by decide +kernel
theorem dL_law_137 : decode code 137 = .ok (.iconst 2, 1) := by decide +kernel
theorem dL_law_138 : decode code 138 = .ok (.iadd, 1) := by decide +kernel
theorem dL_law_139 : decode code 139 = .ok (.iaload, 1) := by decide +kernel
theorem dL_law_140 : decode code 140 = .ok (.invokevirtual 74, 3) := by decide +kernel
theorem dL_law_143 : decode code 143 = .ok (.istore 6, 2) := by decide +kernel
theorem dL_law_145 : decode code 145 = .ok (.aload_n 2, 1) := by decide +kernel
theorem dL_law_146 : decode code 146 = .ok (.invokevirtual 75, 3) := by decide +kernel
theorem dL_law_149 : decode code 149 = .ok (.iload 5, 2) := by decide +kernel
theorem dL_law_151 : decode code 151 = .ok (.if_icmp .eq 5, 3) := by decide +kernel
theorem dL_law_154 : decode code 154 = .ok (.iconst 0, 1) := by decide +kernel
theorem dL_law_155 : decode code 155 = .ok (.ireturn, 1) := by decide +kernel
theorem dL_law_156 : decode code 156 = .ok (.iload 5, 2) := by decide +kernel
theorem dL_law_158 : decode code 158 = .ok (.ifCond .ne 15, 3) := by decide +kernel
theorem dL_law_161 : decode code 161 = .ok (.aload_n 3, 1) := by decide +kernel
theorem dL_law_162 : decode code 162 = .ok (.iconst 0, 1) := by decide +kernel
theorem dL_law_163 : decode code 163 = .ok (.laload, 1) := by decide +kernel
theorem dL_law_164 : decode code 164 = .ok (.iload 6, 2) := by decide +kernel
theorem dL_law_166 : decode code 166 = .ok (.i2l, 1) := by decide +kernel
theorem dL_law_167 : decode code 167 = .ok (.lcmp, 1) := by decide +kernel
theorem dL_law_168 : decode code 168 = .ok (.ifCond .eq 5, 3) := by decide +kernel
theorem dL_law_171 : decode code 171 = .ok (.iconst 0, 1) := by decide +kernel
theorem dL_law_172 : decode code 172 = .ok (.ireturn, 1) := by decide +kernel
theorem dL_law_173 : decode code 173 = .ok (.goto 892, 3) := by decide +kernel
theorem dL_law_176 : decode code 176 = .ok (.aload_n 1, 1) := by decide +kernel
theorem dL_law_177 : decode code 177 = .ok (.aload_n 0, 1) := by decide +kernel
theorem dL_law_178 : decode code 178 = .ok (.iload 4, 2) := by decide +kernel
theorem dL_law_180 : decode code 180 = .ok (.iconst 1, 1) := by decide +kernel
theorem dL_law_181 : decode code 181 = .ok (.iadd, 1) := by decide +kernel
theorem dL_law_182 : decode code 182 = .ok (.iaload, 1) := by decide +kernel
theorem dL_law_183 : decode code 183 = .ok (.aload_n 0, 1) := by decide +kernel
theorem dL_law_184 : decode code 184 = .ok (.iload 4, 2) := by decide +kernel
theorem dL_law_186 : decode code 186 = .ok (.iconst 2, 1) := by decide +kernel
theorem dL_law_187 : decode code 187 = .ok (.iadd, 1) := by decide +kernel
theorem dL_law_188 : decode code 188 = .ok (.iaload, 1) := by decide +kernel
theorem dL_law_189 : decode code 189 = .ok (.aload_n 3, 1) := by decide +kernel
theorem dL_law_190 : decode code 190 = .ok (.invokestatic 79, 3) := by decide +kernel
theorem dL_law_193 : decode code 193 = .ok (.istore 5, 2) := by decide +kernel
theorem dL_law_195 : decode code 195 = .ok (.aload_n 2, 1) := by decide +kernel
theorem dL_law_196 : decode code 196 = .ok (.aload_n 0, 1) := by decide +kernel
theorem dL_law_197 : decode code 197 = .ok (.iload 4, 2) := by decide +kernel
theorem dL_law_199 : decode code 199 = .ok (.iconst 1, 1) := by decide +kernel
theorem dL_law_200 : decode code 200 = .ok (.iadd, 1) := by decide +kernel
theorem dL_law_201 : decode code 201 = .ok (.iaload, 1) := by decide +kernel
theorem dL_law_202 : decode code 202 = .ok (.aload_n 0, 1) := by decide +kernel
theorem dL_law_203 : decode code 203 = .ok (.iload 4, 2) := by decide +kernel
theorem dL_law_205 : decode code 205 = .ok (.iconst 2, 1) := by decide +kernel
theorem dL_law_206 : decode code 206 = .ok (.iadd, 1) := by decide +kernel
theorem dL_law_207 : decode code 207 = .ok (.iaload, 1) := by decide +kernel
theorem dL_law_208 : decode code 208 = .ok (.invokevirtual 81, 3) := by decide +kernel
theorem dL_law_211 : decode code 211 = .ok (.istore 6, 2) := by decide +kernel
theorem dL_law_213 : decode code 213 = .ok (.aload_n 2, 1) := by decide +kernel
theorem dL_law_214 : decode code 214 = .ok (.invokevirtual 75, 3) := by decide +kernel
theorem dL_law_217 : decode code 217 = .ok (.iload 5, 2) := by decide +kernel
theorem dL_law_219 : decode code 219 = .ok (.if_icmp .eq 5, 3) := by decide +kernel
theorem dL_law_222 : decode code 222 = .ok (.iconst 0, 1) := by decide +kernel
theorem dL_law_223 : decode code 223 = .ok (.ireturn, 1) := by decide +kernel
theorem dL_law_224 : decode code 224 = .ok (.iload 5, 2) := by decide +kernel
theorem dL_law_226 : decode code 226 = .ok (.ifCond .ne 15, 3) := by decide +kernel
theorem dL_law_229 : decode code 229 = .ok (.aload_n 3, 1) := by decide +kernel
theorem dL_law_230 : decode code 230 = .ok (.iconst 0, 1) := by decide +kernel
theorem dL_law_231 : decode code 231 = .ok (.laload, 1) := by decide +kernel
theorem dL_law_232 : decode code 232 = .ok (.iload 6, 2) := by decide +kernel
theorem dL_law_234 : decode code 234 = .ok (.i2l, 1) := by decide +kernel
theorem dL_law_235 : decode code 235 = .ok (.lcmp, 1) := by decide +kernel
theorem dL_law_236 : decode code 236 = .ok (.ifCond .eq 5, 3) := by decide +kernel
theorem dL_law_239 : decode code 239 = .ok (.iconst 0, 1) := by decide +kernel
theorem dL_law_240 : decode code 240 = .ok (.ireturn, 1) := by decide +kernel
theorem dL_law_241 : decode code 241 = .ok (.goto 824, 3) := by decide +kernel
theorem dL_law_244 : decode code 244 = .ok (.aload_n 1, 1) := by decide +kernel
theorem dL_law_245 : decode code 245 = .ok (.aload_n 0, 1) := by decide +kernel
theorem dL_law_246 : decode code 246 = .ok (.iload 4, 2) := by decide +kernel
theorem dL_law_248 : decode code 248 = .ok (.iconst 1, 1) := by decide +kernel
theorem dL_law_249 : decode code 249 = .ok (.iadd, 1) := by decide +kernel
theorem dL_law_250 : decode code 250 = .ok (.iaload, 1) := by decide +kernel
theorem dL_law_251 : decode code 251 = .ok (.aload_n 0, 1) := by decide +kernel
theorem dL_law_252 : decode code 252 = .ok (.iload 4, 2) := by decide +kernel
theorem dL_law_254 : decode code 254 = .ok (.iconst 2, 1) := by decide +kernel
theorem dL_law_255 : decode code 255 = .ok (.iadd, 1) := by decide +kernel
theorem dL_law_256 : decode code 256 = .ok (.iaload, 1) := by decide +kernel
theorem dL_law_257 : decode code 257 = .ok (.aload_n 3, 1) := by decide +kernel
theorem dL_law_258 : decode code 258 = .ok (.invokestatic 82, 3) := by decide +kernel
theorem dL_law_261 : decode code 261 = .ok (.istore 5, 2) := by decide +kernel
theorem dL_law_263 : decode code 263 = .ok (.aload_n 2, 1) := by decide +kernel
theorem dL_law_264 : decode code 264 = .ok (.aload_n 0, 1) := by decide +kernel
theorem dL_law_265 : decode code 265 = .ok (.iload 4, 2) := by decide +kernel
theorem dL_law_267 : decode code 267 = .ok (.iconst 1, 1) := by decide +kernel
theorem dL_law_268 : decode code 268 = .ok (.iadd, 1) := by decide +kernel
theorem dL_law_269 : decode code 269 = .ok (.iaload, 1) := by decide +kernel
theorem dL_law_270 : decode code 270 = .ok (.aload_n 0, 1) := by decide +kernel
theorem dL_law_271 : decode code 271 = .ok (.iload 4, 2) := by decide +kernel
theorem dL_law_273 : decode code 273 = .ok (.iconst 2, 1) := by decide +kernel
theorem dL_law_274 : decode code 274 = .ok (.iadd, 1) := by decide +kernel
theorem dL_law_275 : decode code 275 = .ok (.iaload, 1) := by decide +kernel
theorem dL_law_276 : decode code 276 = .ok (.invokevirtual 84, 3) := by decide +kernel
theorem dL_law_279 : decode code 279 = .ok (.istore 6, 2) := by decide +kernel
theorem dL_law_281 : decode code 281 = .ok (.aload_n 2, 1) := by decide +kernel
theorem dL_law_282 : decode code 282 = .ok (.invokevirtual 75, 3) := by decide +kernel
theorem dL_law_285 : decode code 285 = .ok (.iload 5, 2) := by decide +kernel
theorem dL_law_287 : decode code 287 = .ok (.if_icmp .eq 5, 3) := by decide +kernel
theorem dL_law_290 : decode code 290 = .ok (.iconst 0, 1) := by decide +kernel
theorem dL_law_291 : decode code 291 = .ok (.ireturn, 1) := by decide +kernel
theorem dL_law_292 : decode code 292 = .ok (.iload 5, 2) := by decide +kernel
theorem dL_law_294 : decode code 294 = .ok (.ifCond .ne 15, 3) := by decide +kernel
theorem dL_law_297 : decode code 297 = .ok (.aload_n 3, 1) := by decide +kernel
theorem dL_law_298 : decode code 298 = .ok (.iconst 0, 1) := by decide +kernel
theorem dL_law_299 : decode code 299 = .ok (.laload, 1) := by decide +kernel
theorem dL_law_300 : decode code 300 = .ok (.iload 6, 2) := by decide +kernel
theorem dL_law_302 : decode code 302 = .ok (.i2l, 1) := by decide +kernel
theorem dL_law_303 : decode code 303 = .ok (.lcmp, 1) := by decide +kernel
theorem dL_law_304 : decode code 304 = .ok (.ifCond .eq 5, 3) := by decide +kernel
theorem dL_law_307 : decode code 307 = .ok (.iconst 0, 1) := by decide +kernel
theorem dL_law_308 : decode code 308 = .ok (.ireturn, 1) := by decide +kernel
theorem dL_law_309 : decode code 309 = .ok (.goto 756, 3) := by decide +kernel
theorem dL_law_312 : decode code 312 = .ok (.aload_n 1, 1) := by decide +kernel
theorem dL_law_313 : decode code 313 = .ok (.aload_n 0, 1) := by decide +kernel
theorem dL_law_314 : decode code 314 = .ok (.iload 4, 2) := by decide +kernel
theorem dL_law_316 : decode code 316 = .ok (.iconst 1, 1) := by decide +kernel
theorem dL_law_317 : decode code 317 = .ok (.iadd, 1) := by decide +kernel
theorem dL_law_318 : decode code 318 = .ok (.iaload, 1) := by decide +kernel
theorem dL_law_319 : decode code 319 = .ok (.aload_n 0, 1) := by decide +kernel
theorem dL_law_320 : decode code 320 = .ok (.iload 4, 2) := by decide +kernel
theorem dL_law_322 : decode code 322 = .ok (.iconst 2, 1) := by decide +kernel
theorem dL_law_323 : decode code 323 = .ok (.iadd, 1) := by decide +kernel
theorem dL_law_324 : decode code 324 = .ok (.iaload, 1) := by decide +kernel
theorem dL_law_325 : decode code 325 = .ok (.aload_n 0, 1) := by decide +kernel
theorem dL_law_326 : decode code 326 = .ok (.iload 4, 2) := by decide +kernel
theorem dL_law_328 : decode code 328 = .ok (.iconst 3, 1) := by decide +kernel
theorem dL_law_329 : decode code 329 = .ok (.iadd, 1) := by decide +kernel
theorem dL_law_330 : decode code 330 = .ok (.iaload, 1) := by decide +kernel
theorem dL_law_331 : decode code 331 = .ok (.aload_n 3, 1) := by decide +kernel
theorem dL_law_332 : decode code 332 = .ok (.invokestatic 85, 3) := by decide +kernel
theorem dL_law_335 : decode code 335 = .ok (.istore 5, 2) := by decide +kernel
theorem dL_law_337 : decode code 337 = .ok (.aload_n 2, 1) := by decide +kernel
theorem dL_law_338 : decode code 338 = .ok (.aload_n 0, 1) := by decide +kernel
theorem dL_law_339 : decode code 339 = .ok (.iload 4, 2) := by decide +kernel
theorem dL_law_341 : decode code 341 = .ok (.iconst 1, 1) := by decide +kernel
theorem dL_law_342 : decode code 342 = .ok (.iadd, 1) := by decide +kernel
theorem dL_law_343 : decode code 343 = .ok (.iaload, 1) := by decide +kernel
theorem dL_law_344 : decode code 344 = .ok (.aload_n 0, 1) := by decide +kernel
theorem dL_law_345 : decode code 345 = .ok (.iload 4, 2) := by decide +kernel
theorem dL_law_347 : decode code 347 = .ok (.iconst 2, 1) := by decide +kernel
theorem dL_law_348 : decode code 348 = .ok (.iadd, 1) := by decide +kernel
theorem dL_law_349 : decode code 349 = .ok (.iaload, 1) := by decide +kernel
theorem dL_law_350 : decode code 350 = .ok (.aload_n 0, 1) := by decide +kernel
theorem dL_law_351 : decode code 351 = .ok (.iload 4, 2) := by decide +kernel
theorem dL_law_353 : decode code 353 = .ok (.iconst 3, 1) := by decide +kernel
theorem dL_law_354 : decode code 354 = .ok (.iadd, 1) := by decide +kernel
theorem dL_law_355 : decode code 355 = .ok (.iaload, 1) := by decide +kernel
theorem dL_law_356 : decode code 356 = .ok (.invokevirtual 88, 3) := by decide +kernel
theorem dL_law_359 : decode code 359 = .ok (.istore 6, 2) := by decide +kernel
theorem dL_law_361 : decode code 361 = .ok (.aload_n 2, 1) := by decide +kernel
theorem dL_law_362 : decode code 362 = .ok (.invokevirtual 75, 3) := by decide +kernel
theorem dL_law_365 : decode code 365 = .ok (.iload 5, 2) := by decide +kernel
theorem dL_law_367 : decode code 367 = .ok (.if_icmp .eq 5, 3) := by decide +kernel
theorem dL_law_370 : decode code 370 = .ok (.iconst 0, 1) := by decide +kernel
theorem dL_law_371 : decode code 371 = .ok (.ireturn, 1) := by decide +kernel
theorem dL_law_372 : decode code 372 = .ok (.iload 5, 2) := by decide +kernel
theorem dL_law_374 : decode code 374 = .ok (.ifCond .ne 15, 3) := by decide +kernel
theorem dL_law_377 : decode code 377 = .ok (.aload_n 3, 1) := by decide +kernel
theorem dL_law_378 : decode code 378 = .ok (.iconst 0, 1) := by decide +kernel
theorem dL_law_379 : decode code 379 = .ok (.laload, 1) := by decide +kernel
theorem dL_law_380 : decode code 380 = .ok (.iload 6, 2) := by decide +kernel
theorem dL_law_382 : decode code 382 = .ok (.i2l, 1) := by decide +kernel
theorem dL_law_383 : decode code 383 = .ok (.lcmp, 1) := by decide +kernel
theorem dL_law_384 : decode code 384 = .ok (.ifCond .eq 5, 3) := by decide +kernel
theorem dL_law_387 : decode code 387 = .ok (.iconst 0, 1) := by decide +kernel
theorem dL_law_388 : decode code 388 = .ok (.ireturn, 1) := by decide +kernel
theorem dL_law_389 : decode code 389 = .ok (.goto 676, 3) := by decide +kernel
theorem dL_law_392 : decode code 392 = .ok (.aload_n 1, 1) := by decide +kernel
theorem dL_law_393 : decode code 393 = .ok (.aload_n 0, 1) := by decide +kernel
theorem dL_law_394 : decode code 394 = .ok (.iload 4, 2) := by decide +kernel
theorem dL_law_396 : decode code 396 = .ok (.iconst 1, 1) := by decide +kernel
theorem dL_law_397 : decode code 397 = .ok (.iadd, 1) := by decide +kernel
theorem dL_law_398 : decode code 398 = .ok (.iaload, 1) := by decide +kernel
theorem dL_law_399 : decode code 399 = .ok (.aload_n 0, 1) := by decide +kernel
theorem dL_law_400 : decode code 400 = .ok (.iload 4, 2) := by decide +kernel
theorem dL_law_402 : decode code 402 = .ok (.iconst 2, 1) := by decide +kernel
theorem dL_law_403 : decode code 403 = .ok (.iadd, 1) := by decide +kernel
theorem dL_law_404 : decode code 404 = .ok (.iaload, 1) := by decide +kernel
theorem dL_law_405 : decode code 405 = .ok (.aload_n 3, 1) := by decide +kernel
theorem dL_law_406 : decode code 406 = .ok (.invokestatic 89, 3) := by decide +kernel
theorem dL_law_409 : decode code 409 = .ok (.istore 5, 2) := by decide +kernel
theorem dL_law_411 : decode code 411 = .ok (.aload_n 2, 1) := by decide +kernel
theorem dL_law_412 : decode code 412 = .ok (.aload_n 0, 1) := by decide +kernel
theorem dL_law_413 : decode code 413 = .ok (.iload 4, 2) := by decide +kernel
theorem dL_law_415 : decode code 415 = .ok (.iconst 1, 1) := by decide +kernel
theorem dL_law_416 : decode code 416 = .ok (.iadd, 1) := by decide +kernel
theorem dL_law_417 : decode code 417 = .ok (.iaload, 1) := by decide +kernel
theorem dL_law_418 : decode code 418 = .ok (.aload_n 0, 1) := by decide +kernel
theorem dL_law_419 : decode code 419 = .ok (.iload 4, 2) := by decide +kernel
theorem dL_law_421 : decode code 421 = .ok (.iconst 2, 1) := by decide +kernel
theorem dL_law_422 : decode code 422 = .ok (.iadd, 1) := by decide +kernel
theorem dL_law_423 : decode code 423 = .ok (.iaload, 1) := by decide +kernel
theorem dL_law_424 : decode code 424 = .ok (.invokevirtual 91, 3) := by decide +kernel
theorem dL_law_427 : decode code 427 = .ok (.istore 6, 2) := by decide +kernel
theorem dL_law_429 : decode code 429 = .ok (.aload_n 2, 1) := by decide +kernel
theorem dL_law_430 : decode code 430 = .ok (.invokevirtual 75, 3) := by decide +kernel
theorem dL_law_433 : decode code 433 = .ok (.iload 5, 2) := by decide +kernel
theorem dL_law_435 : decode code 435 = .ok (.if_icmp .eq 5, 3) := by decide +kernel
theorem dL_law_438 : decode code 438 = .ok (.iconst 0, 1) := by decide +kernel
theorem dL_law_439 : decode code 439 = .ok (.ireturn, 1) := by decide +kernel
theorem dL_law_440 : decode code 440 = .ok (.iload 5, 2) := by decide +kernel
theorem dL_law_442 : decode code 442 = .ok (.ifCond .ne 15, 3) := by decide +kernel
theorem dL_law_445 : decode code 445 = .ok (.aload_n 3, 1) := by decide +kernel
theorem dL_law_446 : decode code 446 = .ok (.iconst 0, 1) := by decide +kernel
theorem dL_law_447 : decode code 447 = .ok (.laload, 1) := by decide +kernel
theorem dL_law_448 : decode code 448 = .ok (.iload 6, 2) := by decide +kernel
theorem dL_law_450 : decode code 450 = .ok (.i2l, 1) := by decide +kernel
theorem dL_law_451 : decode code 451 = .ok (.lcmp, 1) := by decide +kernel
theorem dL_law_452 : decode code 452 = .ok (.ifCond .eq 5, 3) := by decide +kernel
theorem dL_law_455 : decode code 455 = .ok (.iconst 0, 1) := by decide +kernel
theorem dL_law_456 : decode code 456 = .ok (.ireturn, 1) := by decide +kernel
theorem dL_law_457 : decode code 457 = .ok (.goto 608, 3) := by decide +kernel
theorem dL_law_460 : decode code 460 = .ok (.aload_n 1, 1) := by decide +kernel
theorem dL_law_461 : decode code 461 = .ok (.aload_n 0, 1) := by decide +kernel
theorem dL_law_462 : decode code 462 = .ok (.iload 4, 2) := by decide +kernel
theorem dL_law_464 : decode code 464 = .ok (.iconst 1, 1) := by decide +kernel
theorem dL_law_465 : decode code 465 = .ok (.iadd, 1) := by decide +kernel
theorem dL_law_466 : decode code 466 = .ok (.iaload, 1) := by decide +kernel
theorem dL_law_467 : decode code 467 = .ok (.aload_n 0, 1) := by decide +kernel
theorem dL_law_468 : decode code 468 = .ok (.iload 4, 2) := by decide +kernel
theorem dL_law_470 : decode code 470 = .ok (.iconst 2, 1) := by decide +kernel
theorem dL_law_471 : decode code 471 = .ok (.iadd, 1) := by decide +kernel
theorem dL_law_472 : decode code 472 = .ok (.iaload, 1) := by decide +kernel
theorem dL_law_473 : decode code 473 = .ok (.ifCond .eq 7, 3) := by decide +kernel
theorem dL_law_476 : decode code 476 = .ok (.iconst 1, 1) := by decide +kernel
theorem dL_law_477 : decode code 477 = .ok (.goto 4, 3) := by decide +kernel
theorem dL_law_480 : decode code 480 = .ok (.iconst 0, 1) := by decide +kernel
theorem dL_law_481 : decode code 481 = .ok (.invokestatic 92, 3) := by decide +kernel
theorem dL_law_484 : decode code 484 = .ok (.istore 5, 2) := by decide +kernel
theorem dL_law_486 : decode code 486 = .ok (.aload_n 2, 1) := by decide +kernel
theorem dL_law_487 : decode code 487 = .ok (.aload_n 0, 1) := by decide +kernel
theorem dL_law_488 : decode code 488 = .ok (.iload 4, 2) := by decide +kernel
theorem dL_law_490 : decode code 490 = .ok (.iconst 1, 1) := by decide +kernel
theorem dL_law_491 : decode code 491 = .ok (.iadd, 1) := by decide +kernel
theorem dL_law_492 : decode code 492 = .ok (.iaload, 1) := by decide +kernel
theorem dL_law_493 : decode code 493 = .ok (.aload_n 0, 1) := by decide +kernel
theorem dL_law_494 : decode code 494 = .ok (.iload 4, 2) := by decide +kernel
theorem dL_law_496 : decode code 496 = .ok (.iconst 2, 1) := by decide +kernel
theorem dL_law_497 : decode code 497 = .ok (.iadd, 1) := by decide +kernel
theorem dL_law_498 : decode code 498 = .ok (.iaload, 1) := by decide +kernel
theorem dL_law_499 : decode code 499 = .ok (.ifCond .eq 7, 3) := by decide +kernel
theorem dL_law_502 : decode code 502 = .ok (.iconst 1, 1) := by decide +kernel
theorem dL_law_503 : decode code 503 = .ok (.goto 4, 3) := by decide +kernel
theorem dL_law_506 : decode code 506 = .ok (.iconst 0, 1) := by decide +kernel
theorem dL_law_507 : decode code 507 = .ok (.invokevirtual 95, 3) := by decide +kernel
theorem dL_law_510 : decode code 510 = .ok (.aload_n 2, 1) := by decide +kernel
theorem dL_law_511 : decode code 511 = .ok (.invokevirtual 75, 3) := by decide +kernel
theorem dL_law_514 : decode code 514 = .ok (.iload 5, 2) := by decide +kernel
theorem dL_law_516 : decode code 516 = .ok (.if_icmp .eq 5, 3) := by decide +kernel
theorem dL_law_519 : decode code 519 = .ok (.iconst 0, 1) := by decide +kernel
theorem dL_law_520 : decode code 520 = .ok (.ireturn, 1) := by decide +kernel
theorem dL_law_521 : decode code 521 = .ok (.goto 544, 3) := by decide +kernel
theorem dL_law_524 : decode code 524 = .ok (.aload_n 1, 1) := by decide +kernel
theorem dL_law_525 : decode code 525 = .ok (.aload_n 0, 1) := by decide +kernel
theorem dL_law_526 : decode code 526 = .ok (.iload 4, 2) := by decide +kernel
theorem dL_law_528 : decode code 528 = .ok (.iconst 1, 1) := by decide +kernel
theorem dL_law_529 : decode code 529 = .ok (.iadd, 1) := by decide +kernel
theorem dL_law_530 : decode code 530 = .ok (.iaload, 1) := by decide +kernel
theorem dL_law_531 : decode code 531 = .ok (.aload_n 3, 1) := by decide +kernel
theorem dL_law_532 : decode code 532 = .ok (.invokestatic 96, 3) := by decide +kernel
theorem dL_law_535 : decode code 535 = .ok (.istore 5, 2) := by decide +kernel
theorem dL_law_537 : decode code 537 = .ok (.aload_n 2, 1) := by decide +kernel
theorem dL_law_538 : decode code 538 = .ok (.aload_n 0, 1) := by decide +kernel
theorem dL_law_539 : decode code 539 = .ok (.iload 4, 2) := by decide +kernel
theorem dL_law_541 : decode code 541 = .ok (.iconst 1, 1) := by decide +kernel
theorem dL_law_542 : decode code 542 = .ok (.iadd, 1) := by decide +kernel
theorem dL_law_543 : decode code 543 = .ok (.iaload, 1) := by decide +kernel
theorem dL_law_544 : decode code 544 = .ok (.invokevirtual 99, 3) := by decide +kernel
theorem dL_law_547 : decode code 547 = .ok (.istore 6, 2) := by decide +kernel
theorem dL_law_549 : decode code 549 = .ok (.aload_n 2, 1) := by decide +kernel
theorem dL_law_550 : decode code 550 = .ok (.invokevirtual 75, 3) := by decide +kernel
theorem dL_law_553 : decode code 553 = .ok (.iload 5, 2) := by decide +kernel
theorem dL_law_555 : decode code 555 = .ok (.if_icmp .eq 5, 3) := by decide +kernel
theorem dL_law_558 : decode code 558 = .ok (.iconst 0, 1) := by decide +kernel
theorem dL_law_559 : decode code 559 = .ok (.ireturn, 1) := by decide +kernel
theorem dL_law_560 : decode code 560 = .ok (.iload 5, 2) := by decide +kernel
theorem dL_law_562 : decode code 562 = .ok (.ifCond .ne 15, 3) := by decide +kernel
theorem dL_law_565 : decode code 565 = .ok (.aload_n 3, 1) := by decide +kernel
theorem dL_law_566 : decode code 566 = .ok (.iconst 0, 1) := by decide +kernel
theorem dL_law_567 : decode code 567 = .ok (.laload, 1) := by decide +kernel
theorem dL_law_568 : decode code 568 = .ok (.iload 6, 2) := by decide +kernel
theorem dL_law_570 : decode code 570 = .ok (.i2l, 1) := by decide +kernel
theorem dL_law_571 : decode code 571 = .ok (.lcmp, 1) := by decide +kernel
theorem dL_law_572 : decode code 572 = .ok (.ifCond .eq 5, 3) := by decide +kernel
theorem dL_law_575 : decode code 575 = .ok (.iconst 0, 1) := by decide +kernel
theorem dL_law_576 : decode code 576 = .ok (.ireturn, 1) := by decide +kernel
theorem dL_law_577 : decode code 577 = .ok (.goto 488, 3) := by decide +kernel
theorem dL_law_580 : decode code 580 = .ok (.aload_n 1, 1) := by decide +kernel
theorem dL_law_581 : decode code 581 = .ok (.aload_n 0, 1) := by decide +kernel
theorem dL_law_582 : decode code 582 = .ok (.iload 4, 2) := by decide +kernel
theorem dL_law_584 : decode code 584 = .ok (.iconst 1, 1) := by decide +kernel
theorem dL_law_585 : decode code 585 = .ok (.iadd, 1) := by decide +kernel
theorem dL_law_586 : decode code 586 = .ok (.iaload, 1) := by decide +kernel
theorem dL_law_587 : decode code 587 = .ok (.aload_n 0, 1) := by decide +kernel
theorem dL_law_588 : decode code 588 = .ok (.iload 4, 2) := by decide +kernel
theorem dL_law_590 : decode code 590 = .ok (.iconst 2, 1) := by decide +kernel
theorem dL_law_591 : decode code 591 = .ok (.iadd, 1) := by decide +kernel
theorem dL_law_592 : decode code 592 = .ok (.iaload, 1) := by decide +kernel
theorem dL_law_593 : decode code 593 = .ok (.aload_n 3, 1) := by decide +kernel
theorem dL_law_594 : decode code 594 = .ok (.invokestatic 100, 3) := by decide +kernel
theorem dL_law_597 : decode code 597 = .ok (.istore 5, 2) := by decide +kernel
theorem dL_law_599 : decode code 599 = .ok (.aload_n 2, 1) := by decide +kernel
theorem dL_law_600 : decode code 600 = .ok (.aload_n 0, 1) := by decide +kernel
theorem dL_law_601 : decode code 601 = .ok (.iload 4, 2) := by decide +kernel
theorem dL_law_603 : decode code 603 = .ok (.iconst 1, 1) := by decide +kernel
theorem dL_law_604 : decode code 604 = .ok (.iadd, 1) := by decide +kernel
theorem dL_law_605 : decode code 605 = .ok (.iaload, 1) := by decide +kernel
theorem dL_law_606 : decode code 606 = .ok (.aload_n 0, 1) := by decide +kernel
theorem dL_law_607 : decode code 607 = .ok (.iload 4, 2) := by decide +kernel
theorem dL_law_609 : decode code 609 = .ok (.iconst 2, 1) := by decide +kernel
theorem dL_law_610 : decode code 610 = .ok (.iadd, 1) := by decide +kernel
theorem dL_law_611 : decode code 611 = .ok (.iaload, 1) := by decide +kernel
theorem dL_law_612 : decode code 612 = .ok (.invokevirtual 102, 3) := by decide +kernel
theorem dL_law_615 : decode code 615 = .ok (.istore 6, 2) := by decide +kernel
theorem dL_law_617 : decode code 617 = .ok (.aload_n 2, 1) := by decide +kernel
theorem dL_law_618 : decode code 618 = .ok (.invokevirtual 75, 3) := by decide +kernel
theorem dL_law_621 : decode code 621 = .ok (.iload 5, 2) := by decide +kernel
theorem dL_law_623 : decode code 623 = .ok (.if_icmp .eq 5, 3) := by decide +kernel
theorem dL_law_626 : decode code 626 = .ok (.iconst 0, 1) := by decide +kernel
theorem dL_law_627 : decode code 627 = .ok (.ireturn, 1) := by decide +kernel
theorem dL_law_628 : decode code 628 = .ok (.iload 5, 2) := by decide +kernel
theorem dL_law_630 : decode code 630 = .ok (.ifCond .ne 15, 3) := by decide +kernel
theorem dL_law_633 : decode code 633 = .ok (.aload_n 3, 1) := by decide +kernel
theorem dL_law_634 : decode code 634 = .ok (.iconst 0, 1) := by decide +kernel
theorem dL_law_635 : decode code 635 = .ok (.laload, 1) := by decide +kernel
theorem dL_law_636 : decode code 636 = .ok (.iload 6, 2) := by decide +kernel
theorem dL_law_638 : decode code 638 = .ok (.i2l, 1) := by decide +kernel
theorem dL_law_639 : decode code 639 = .ok (.lcmp, 1) := by decide +kernel
theorem dL_law_640 : decode code 640 = .ok (.ifCond .eq 5, 3) := by decide +kernel
theorem dL_law_643 : decode code 643 = .ok (.iconst 0, 1) := by decide +kernel
theorem dL_law_644 : decode code 644 = .ok (.ireturn, 1) := by decide +kernel
theorem dL_law_645 : decode code 645 = .ok (.goto 420, 3) := by decide +kernel
theorem dL_law_648 : decode code 648 = .ok (.aload_n 1, 1) := by decide +kernel
theorem dL_law_649 : decode code 649 = .ok (.aload_n 0, 1) := by decide +kernel
theorem dL_law_650 : decode code 650 = .ok (.iload 4, 2) := by decide +kernel
theorem dL_law_652 : decode code 652 = .ok (.iconst 1, 1) := by decide +kernel
theorem dL_law_653 : decode code 653 = .ok (.iadd, 1) := by decide +kernel
theorem dL_law_654 : decode code 654 = .ok (.iaload, 1) := by decide +kernel
theorem dL_law_655 : decode code 655 = .ok (.aload_n 0, 1) := by decide +kernel
theorem dL_law_656 : decode code 656 = .ok (.iload 4, 2) := by decide +kernel
theorem dL_law_658 : decode code 658 = .ok (.iconst 2, 1) := by decide +kernel
theorem dL_law_659 : decode code 659 = .ok (.iadd, 1) := by decide +kernel
theorem dL_law_660 : decode code 660 = .ok (.iaload, 1) := by decide +kernel
theorem dL_law_661 : decode code 661 = .ok (.aload_n 3, 1) := by decide +kernel
theorem dL_law_662 : decode code 662 = .ok (.invokestatic 103, 3) := by decide +kernel
theorem dL_law_665 : decode code 665 = .ok (.istore 5, 2) := by decide +kernel
theorem dL_law_667 : decode code 667 = .ok (.aload_n 2, 1) := by decide +kernel
theorem dL_law_668 : decode code 668 = .ok (.aload_n 0, 1) := by decide +kernel
theorem dL_law_669 : decode code 669 = .ok (.iload 4, 2) := by decide +kernel
theorem dL_law_671 : decode code 671 = .ok (.iconst 1, 1) := by decide +kernel
theorem dL_law_672 : decode code 672 = .ok (.iadd, 1) := by decide +kernel
theorem dL_law_673 : decode code 673 = .ok (.iaload, 1) := by decide +kernel
theorem dL_law_674 : decode code 674 = .ok (.aload_n 0, 1) := by decide +kernel
theorem dL_law_675 : decode code 675 = .ok (.iload 4, 2) := by decide +kernel
theorem dL_law_677 : decode code 677 = .ok (.iconst 2, 1) := by decide +kernel
theorem dL_law_678 : decode code 678 = .ok (.iadd, 1) := by decide +kernel
theorem dL_law_679 : decode code 679 = .ok (.iaload, 1) := by decide +kernel
theorem dL_law_680 : decode code 680 = .ok (.invokevirtual 105, 3) := by decide +kernel
theorem dL_law_683 : decode code 683 = .ok (.istore 6, 2) := by decide +kernel
theorem dL_law_685 : decode code 685 = .ok (.aload_n 2, 1) := by decide +kernel
theorem dL_law_686 : decode code 686 = .ok (.invokevirtual 75, 3) := by decide +kernel
theorem dL_law_689 : decode code 689 = .ok (.iload 5, 2) := by decide +kernel
theorem dL_law_691 : decode code 691 = .ok (.if_icmp .eq 5, 3) := by decide +kernel
theorem dL_law_694 : decode code 694 = .ok (.iconst 0, 1) := by decide +kernel
theorem dL_law_695 : decode code 695 = .ok (.ireturn, 1) := by decide +kernel
theorem dL_law_696 : decode code 696 = .ok (.iload 5, 2) := by decide +kernel
theorem dL_law_698 : decode code 698 = .ok (.ifCond .ne 15, 3) := by decide +kernel
theorem dL_law_701 : decode code 701 = .ok (.aload_n 3, 1) := by decide +kernel
theorem dL_law_702 : decode code 702 = .ok (.iconst 0, 1) := by decide +kernel
theorem dL_law_703 : decode code 703 = .ok (.laload, 1) := by decide +kernel
theorem dL_law_704 : decode code 704 = .ok (.iload 6, 2) := by decide +kernel
theorem dL_law_706 : decode code 706 = .ok (.i2l, 1) := by decide +kernel
theorem dL_law_707 : decode code 707 = .ok (.lcmp, 1) := by decide +kernel
theorem dL_law_708 : decode code 708 = .ok (.ifCond .eq 5, 3) := by decide +kernel
theorem dL_law_711 : decode code 711 = .ok (.iconst 0, 1) := by decide +kernel
theorem dL_law_712 : decode code 712 = .ok (.ireturn, 1) := by decide +kernel
theorem dL_law_713 : decode code 713 = .ok (.goto 352, 3) := by decide +kernel
theorem dL_law_716 : decode code 716 = .ok (.aload_n 1, 1) := by decide +kernel
theorem dL_law_717 : decode code 717 = .ok (.aload_n 0, 1) := by decide +kernel
theorem dL_law_718 : decode code 718 = .ok (.iload 4, 2) := by decide +kernel
theorem dL_law_720 : decode code 720 = .ok (.iconst 1, 1) := by decide +kernel
theorem dL_law_721 : decode code 721 = .ok (.iadd, 1) := by decide +kernel
theorem dL_law_722 : decode code 722 = .ok (.iaload, 1) := by decide +kernel
theorem dL_law_723 : decode code 723 = .ok (.aload_n 0, 1) := by decide +kernel
theorem dL_law_724 : decode code 724 = .ok (.iload 4, 2) := by decide +kernel
theorem dL_law_726 : decode code 726 = .ok (.iconst 2, 1) := by decide +kernel
theorem dL_law_727 : decode code 727 = .ok (.iadd, 1) := by decide +kernel
theorem dL_law_728 : decode code 728 = .ok (.iaload, 1) := by decide +kernel
theorem dL_law_729 : decode code 729 = .ok (.aload_n 0, 1) := by decide +kernel
theorem dL_law_730 : decode code 730 = .ok (.iload 4, 2) := by decide +kernel
theorem dL_law_732 : decode code 732 = .ok (.iconst 3, 1) := by decide +kernel
theorem dL_law_733 : decode code 733 = .ok (.iadd, 1) := by decide +kernel
theorem dL_law_734 : decode code 734 = .ok (.iaload, 1) := by decide +kernel
theorem dL_law_735 : decode code 735 = .ok (.aload_n 3, 1) := by decide +kernel
theorem dL_law_736 : decode code 736 = .ok (.invokestatic 106, 3) := by decide +kernel
theorem dL_law_739 : decode code 739 = .ok (.istore 5, 2) := by decide +kernel
theorem dL_law_741 : decode code 741 = .ok (.aload_n 2, 1) := by decide +kernel
theorem dL_law_742 : decode code 742 = .ok (.aload_n 0, 1) := by decide +kernel
theorem dL_law_743 : decode code 743 = .ok (.iload 4, 2) := by decide +kernel
theorem dL_law_745 : decode code 745 = .ok (.iconst 1, 1) := by decide +kernel
theorem dL_law_746 : decode code 746 = .ok (.iadd, 1) := by decide +kernel
theorem dL_law_747 : decode code 747 = .ok (.iaload, 1) := by decide +kernel
theorem dL_law_748 : decode code 748 = .ok (.aload_n 0, 1) := by decide +kernel
theorem dL_law_749 : decode code 749 = .ok (.iload 4, 2) := by decide +kernel
theorem dL_law_751 : decode code 751 = .ok (.iconst 2, 1) := by decide +kernel
theorem dL_law_752 : decode code 752 = .ok (.iadd, 1) := by decide +kernel
theorem dL_law_753 : decode code 753 = .ok (.iaload, 1) := by decide +kernel
theorem dL_law_754 : decode code 754 = .ok (.aload_n 0, 1) := by decide +kernel
theorem dL_law_755 : decode code 755 = .ok (.iload 4, 2) := by decide +kernel
theorem dL_law_757 : decode code 757 = .ok (.iconst 3, 1) := by decide +kernel
theorem dL_law_758 : decode code 758 = .ok (.iadd, 1) := by decide +kernel
theorem dL_law_759 : decode code 759 = .ok (.iaload, 1) := by decide +kernel
theorem dL_law_760 : decode code 760 = .ok (.invokevirtual 108, 3) := by decide +kernel
theorem dL_law_763 : decode code 763 = .ok (.lstore 6, 2) := by decide +kernel
theorem dL_law_765 : decode code 765 = .ok (.aload_n 2, 1) := by decide +kernel
theorem dL_law_766 : decode code 766 = .ok (.invokevirtual 75, 3) := by decide +kernel
theorem dL_law_769 : decode code 769 = .ok (.iload 5, 2) := by decide +kernel
theorem dL_law_771 : decode code 771 = .ok (.if_icmp .eq 5, 3) := by decide +kernel
theorem dL_law_774 : decode code 774 = .ok (.iconst 0, 1) := by decide +kernel
theorem dL_law_775 : decode code 775 = .ok (.ireturn, 1) := by decide +kernel
theorem dL_law_776 : decode code 776 = .ok (.iload 5, 2) := by decide +kernel
theorem dL_law_778 : decode code 778 = .ok (.ifCond .ne 14, 3) := by decide +kernel
theorem dL_law_781 : decode code 781 = .ok (.aload_n 3, 1) := by decide +kernel
theorem dL_law_782 : decode code 782 = .ok (.iconst 0, 1) := by decide +kernel
theorem dL_law_783 : decode code 783 = .ok (.laload, 1) := by decide +kernel
theorem dL_law_784 : decode code 784 = .ok (.lload 6, 2) := by decide +kernel
theorem dL_law_786 : decode code 786 = .ok (.lcmp, 1) := by decide +kernel
theorem dL_law_787 : decode code 787 = .ok (.ifCond .eq 5, 3) := by decide +kernel
theorem dL_law_790 : decode code 790 = .ok (.iconst 0, 1) := by decide +kernel
theorem dL_law_791 : decode code 791 = .ok (.ireturn, 1) := by decide +kernel
theorem dL_law_792 : decode code 792 = .ok (.goto 273, 3) := by decide +kernel
theorem dL_law_795 : decode code 795 = .ok (.aload_n 1, 1) := by decide +kernel
theorem dL_law_796 : decode code 796 = .ok (.aload_n 0, 1) := by decide +kernel
theorem dL_law_797 : decode code 797 = .ok (.iload 4, 2) := by decide +kernel
theorem dL_law_799 : decode code 799 = .ok (.iconst 1, 1) := by decide +kernel
theorem dL_law_800 : decode code 800 = .ok (.iadd, 1) := by decide +kernel
theorem dL_law_801 : decode code 801 = .ok (.iaload, 1) := by decide +kernel
theorem dL_law_802 : decode code 802 = .ok (.aload_n 0, 1) := by decide +kernel
theorem dL_law_803 : decode code 803 = .ok (.iload 4, 2) := by decide +kernel
theorem dL_law_805 : decode code 805 = .ok (.iconst 2, 1) := by decide +kernel
theorem dL_law_806 : decode code 806 = .ok (.iadd, 1) := by decide +kernel
theorem dL_law_807 : decode code 807 = .ok (.iaload, 1) := by decide +kernel
theorem dL_law_808 : decode code 808 = .ok (.aload_n 3, 1) := by decide +kernel
theorem dL_law_809 : decode code 809 = .ok (.invokestatic 109, 3) := by decide +kernel
theorem dL_law_812 : decode code 812 = .ok (.istore 5, 2) := by decide +kernel
theorem dL_law_814 : decode code 814 = .ok (.aload_n 2, 1) := by decide +kernel
theorem dL_law_815 : decode code 815 = .ok (.aload_n 0, 1) := by decide +kernel
theorem dL_law_816 : decode code 816 = .ok (.iload 4, 2) := by decide +kernel
theorem dL_law_818 : decode code 818 = .ok (.iconst 1, 1) := by decide +kernel
theorem dL_law_819 : decode code 819 = .ok (.iadd, 1) := by decide +kernel
theorem dL_law_820 : decode code 820 = .ok (.iaload, 1) := by decide +kernel
theorem dL_law_821 : decode code 821 = .ok (.aload_n 0, 1) := by decide +kernel
theorem dL_law_822 : decode code 822 = .ok (.iload 4, 2) := by decide +kernel
theorem dL_law_824 : decode code 824 = .ok (.iconst 2, 1) := by decide +kernel
theorem dL_law_825 : decode code 825 = .ok (.iadd, 1) := by decide +kernel
theorem dL_law_826 : decode code 826 = .ok (.iaload, 1) := by decide +kernel
theorem dL_law_827 : decode code 827 = .ok (.invokevirtual 111, 3) := by decide +kernel
theorem dL_law_830 : decode code 830 = .ok (.istore 6, 2) := by decide +kernel
theorem dL_law_832 : decode code 832 = .ok (.aload_n 2, 1) := by decide +kernel
theorem dL_law_833 : decode code 833 = .ok (.invokevirtual 75, 3) := by decide +kernel
theorem dL_law_836 : decode code 836 = .ok (.iload 5, 2) := by decide +kernel
theorem dL_law_838 : decode code 838 = .ok (.if_icmp .eq 5, 3) := by decide +kernel
theorem dL_law_841 : decode code 841 = .ok (.iconst 0, 1) := by decide +kernel
theorem dL_law_842 : decode code 842 = .ok (.ireturn, 1) := by decide +kernel
theorem dL_law_843 : decode code 843 = .ok (.iload 5, 2) := by decide +kernel
theorem dL_law_845 : decode code 845 = .ok (.ifCond .ne 15, 3) := by decide +kernel
theorem dL_law_848 : decode code 848 = .ok (.aload_n 3, 1) := by decide +kernel
theorem dL_law_849 : decode code 849 = .ok (.iconst 0, 1) := by decide +kernel
theorem dL_law_850 : decode code 850 = .ok (.laload, 1) := by decide +kernel
theorem dL_law_851 : decode code 851 = .ok (.iload 6, 2) := by decide +kernel
theorem dL_law_853 : decode code 853 = .ok (.i2l, 1) := by decide +kernel
theorem dL_law_854 : decode code 854 = .ok (.lcmp, 1) := by decide +kernel
theorem dL_law_855 : decode code 855 = .ok (.ifCond .eq 5, 3) := by decide +kernel
theorem dL_law_858 : decode code 858 = .ok (.iconst 0, 1) := by decide +kernel
theorem dL_law_859 : decode code 859 = .ok (.ireturn, 1) := by decide +kernel
theorem dL_law_860 : decode code 860 = .ok (.goto 205, 3) := by decide +kernel
theorem dL_law_863 : decode code 863 = .ok (.aload_n 1, 1) := by decide +kernel
theorem dL_law_864 : decode code 864 = .ok (.aload_n 0, 1) := by decide +kernel
theorem dL_law_865 : decode code 865 = .ok (.iload 4, 2) := by decide +kernel
theorem dL_law_867 : decode code 867 = .ok (.iconst 1, 1) := by decide +kernel
theorem dL_law_868 : decode code 868 = .ok (.iadd, 1) := by decide +kernel
theorem dL_law_869 : decode code 869 = .ok (.iaload, 1) := by decide +kernel
theorem dL_law_870 : decode code 870 = .ok (.aload_n 0, 1) := by decide +kernel
theorem dL_law_871 : decode code 871 = .ok (.iload 4, 2) := by decide +kernel
theorem dL_law_873 : decode code 873 = .ok (.iconst 2, 1) := by decide +kernel
theorem dL_law_874 : decode code 874 = .ok (.iadd, 1) := by decide +kernel
theorem dL_law_875 : decode code 875 = .ok (.iaload, 1) := by decide +kernel
theorem dL_law_876 : decode code 876 = .ok (.aload_n 0, 1) := by decide +kernel
theorem dL_law_877 : decode code 877 = .ok (.iload 4, 2) := by decide +kernel
theorem dL_law_879 : decode code 879 = .ok (.iconst 3, 1) := by decide +kernel
theorem dL_law_880 : decode code 880 = .ok (.iadd, 1) := by decide +kernel
theorem dL_law_881 : decode code 881 = .ok (.iaload, 1) := by decide +kernel
theorem dL_law_882 : decode code 882 = .ok (.aload_n 3, 1) := by decide +kernel
theorem dL_law_883 : decode code 883 = .ok (.invokestatic 112, 3) := by decide +kernel
theorem dL_law_886 : decode code 886 = .ok (.istore 5, 2) := by decide +kernel
theorem dL_law_888 : decode code 888 = .ok (.aload_n 2, 1) := by decide +kernel
theorem dL_law_889 : decode code 889 = .ok (.aload_n 0, 1) := by decide +kernel
theorem dL_law_890 : decode code 890 = .ok (.iload 4, 2) := by decide +kernel
theorem dL_law_892 : decode code 892 = .ok (.iconst 1, 1) := by decide +kernel
theorem dL_law_893 : decode code 893 = .ok (.iadd, 1) := by decide +kernel
theorem dL_law_894 : decode code 894 = .ok (.iaload, 1) := by decide +kernel
theorem dL_law_895 : decode code 895 = .ok (.aload_n 0, 1) := by decide +kernel
theorem dL_law_896 : decode code 896 = .ok (.iload 4, 2) := by decide +kernel
theorem dL_law_898 : decode code 898 = .ok (.iconst 2, 1) := by decide +kernel
theorem dL_law_899 : decode code 899 = .ok (.iadd, 1) := by decide +kernel
theorem dL_law_900 : decode code 900 = .ok (.iaload, 1) := by decide +kernel
theorem dL_law_901 : decode code 901 = .ok (.aload_n 0, 1) := by decide +kernel
theorem dL_law_902 : decode code 902 = .ok (.iload 4, 2) := by decide +kernel
theorem dL_law_904 : decode code 904 = .ok (.iconst 3, 1) := by decide +kernel
theorem dL_law_905 : decode code 905 = .ok (.iadd, 1) := by decide +kernel
theorem dL_law_906 : decode code 906 = .ok (.iaload, 1) := by decide +kernel
theorem dL_law_907 : decode code 907 = .ok (.invokevirtual 114, 3) := by decide +kernel
theorem dL_law_910 : decode code 910 = .ok (.lstore 6, 2) := by decide +kernel
theorem dL_law_912 : decode code 912 = .ok (.aload_n 2, 1) := by decide +kernel
theorem dL_law_913 : decode code 913 = .ok (.invokevirtual 75, 3) := by decide +kernel
theorem dL_law_916 : decode code 916 = .ok (.iload 5, 2) := by decide +kernel
theorem dL_law_918 : decode code 918 = .ok (.if_icmp .eq 5, 3) := by decide +kernel
theorem dL_law_921 : decode code 921 = .ok (.iconst 0, 1) := by decide +kernel
theorem dL_law_922 : decode code 922 = .ok (.ireturn, 1) := by decide +kernel
theorem dL_law_923 : decode code 923 = .ok (.iload 5, 2) := by decide +kernel
theorem dL_law_925 : decode code 925 = .ok (.ifCond .ne 14, 3) := by decide +kernel
theorem dL_law_928 : decode code 928 = .ok (.aload_n 3, 1) := by decide +kernel
theorem dL_law_929 : decode code 929 = .ok (.iconst 0, 1) := by decide +kernel
theorem dL_law_930 : decode code 930 = .ok (.laload, 1) := by decide +kernel
theorem dL_law_931 : decode code 931 = .ok (.lload 6, 2) := by decide +kernel
theorem dL_law_933 : decode code 933 = .ok (.lcmp, 1) := by decide +kernel
theorem dL_law_934 : decode code 934 = .ok (.ifCond .eq 5, 3) := by decide +kernel
theorem dL_law_937 : decode code 937 = .ok (.iconst 0, 1) := by decide +kernel
theorem dL_law_938 : decode code 938 = .ok (.ireturn, 1) := by decide +kernel
theorem dL_law_939 : decode code 939 = .ok (.goto 126, 3) := by decide +kernel
theorem dL_law_942 : decode code 942 = .ok (.aload_n 1, 1) := by decide +kernel
theorem dL_law_943 : decode code 943 = .ok (.aload_n 0, 1) := by decide +kernel
theorem dL_law_944 : decode code 944 = .ok (.iload 4, 2) := by decide +kernel
theorem dL_law_946 : decode code 946 = .ok (.iconst 1, 1) := by decide +kernel
theorem dL_law_947 : decode code 947 = .ok (.iadd, 1) := by decide +kernel
theorem dL_law_948 : decode code 948 = .ok (.iaload, 1) := by decide +kernel
theorem dL_law_949 : decode code 949 = .ok (.aload_n 0, 1) := by decide +kernel
theorem dL_law_950 : decode code 950 = .ok (.iload 4, 2) := by decide +kernel
theorem dL_law_952 : decode code 952 = .ok (.iconst 2, 1) := by decide +kernel
theorem dL_law_953 : decode code 953 = .ok (.iadd, 1) := by decide +kernel
theorem dL_law_954 : decode code 954 = .ok (.iaload, 1) := by decide +kernel
theorem dL_law_955 : decode code 955 = .ok (.aload_n 3, 1) := by decide +kernel
theorem dL_law_956 : decode code 956 = .ok (.invokestatic 115, 3) := by decide +kernel
theorem dL_law_959 : decode code 959 = .ok (.istore 5, 2) := by decide +kernel
theorem dL_law_961 : decode code 961 = .ok (.aload_n 2, 1) := by decide +kernel
theorem dL_law_962 : decode code 962 = .ok (.aload_n 0, 1) := by decide +kernel
theorem dL_law_963 : decode code 963 = .ok (.iload 4, 2) := by decide +kernel
theorem dL_law_965 : decode code 965 = .ok (.iconst 1, 1) := by decide +kernel
theorem dL_law_966 : decode code 966 = .ok (.iadd, 1) := by decide +kernel
theorem dL_law_967 : decode code 967 = .ok (.iaload, 1) := by decide +kernel
theorem dL_law_968 : decode code 968 = .ok (.aload_n 0, 1) := by decide +kernel
theorem dL_law_969 : decode code 969 = .ok (.iload 4, 2) := by decide +kernel
theorem dL_law_971 : decode code 971 = .ok (.iconst 2, 1) := by decide +kernel
theorem dL_law_972 : decode code 972 = .ok (.iadd, 1) := by decide +kernel
theorem dL_law_973 : decode code 973 = .ok (.iaload, 1) := by decide +kernel
theorem dL_law_974 : decode code 974 = .ok (.invokevirtual 117, 3) := by decide +kernel
theorem dL_law_977 : decode code 977 = .ok (.istore 6, 2) := by decide +kernel
theorem dL_law_979 : decode code 979 = .ok (.aload_n 2, 1) := by decide +kernel
theorem dL_law_980 : decode code 980 = .ok (.invokevirtual 75, 3) := by decide +kernel
theorem dL_law_983 : decode code 983 = .ok (.iload 5, 2) := by decide +kernel
theorem dL_law_985 : decode code 985 = .ok (.if_icmp .eq 5, 3) := by decide +kernel
theorem dL_law_988 : decode code 988 = .ok (.iconst 0, 1) := by decide +kernel
theorem dL_law_989 : decode code 989 = .ok (.ireturn, 1) := by decide +kernel
theorem dL_law_990 : decode code 990 = .ok (.iload 5, 2) := by decide +kernel
theorem dL_law_992 : decode code 992 = .ok (.ifCond .ne 15, 3) := by decide +kernel
theorem dL_law_995 : decode code 995 = .ok (.aload_n 3, 1) := by decide +kernel
theorem dL_law_996 : decode code 996 = .ok (.iconst 0, 1) := by decide +kernel
theorem dL_law_997 : decode code 997 = .ok (.laload, 1) := by decide +kernel
theorem dL_law_998 : decode code 998 = .ok (.iload 6, 2) := by decide +kernel
theorem dL_law_1000 : decode code 1000 = .ok (.i2l, 1) := by decide +kernel
theorem dL_law_1001 : decode code 1001 = .ok (.lcmp, 1) := by decide +kernel
theorem dL_law_1002 : decode code 1002 = .ok (.ifCond .eq 5, 3) := by decide +kernel
theorem dL_law_1005 : decode code 1005 = .ok (.iconst 0, 1) := by decide +kernel
theorem dL_law_1006 : decode code 1006 = .ok (.ireturn, 1) := by decide +kernel
theorem dL_law_1007 : decode code 1007 = .ok (.goto 58, 3) := by decide +kernel
theorem dL_law_1010 : decode code 1010 = .ok (.aload_n 1, 1) := by decide +kernel
theorem dL_law_1011 : decode code 1011 = .ok (.aload_n 0, 1) := by decide +kernel
theorem dL_law_1012 : decode code 1012 = .ok (.iload 4, 2) := by decide +kernel
theorem dL_law_1014 : decode code 1014 = .ok (.iconst 1, 1) := by decide +kernel
theorem dL_law_1015 : decode code 1015 = .ok (.iadd, 1) := by decide +kernel
theorem dL_law_1016 : decode code 1016 = .ok (.iaload, 1) := by decide +kernel
theorem dL_law_1017 : decode code 1017 = .ok (.aload_n 3, 1) := by decide +kernel
theorem dL_law_1018 : decode code 1018 = .ok (.invokestatic 118, 3) := by decide +kernel
theorem dL_law_1021 : decode code 1021 = .ok (.istore 5, 2) := by decide +kernel
theorem dL_law_1023 : decode code 1023 = .ok (.aload_n 2, 1) := by decide +kernel
theorem dL_law_1024 : decode code 1024 = .ok (.aload_n 0, 1) := by decide +kernel
theorem dL_law_1025 : decode code 1025 = .ok (.iload 4, 2) := by decide +kernel
theorem dL_law_1027 : decode code 1027 = .ok (.iconst 1, 1) := by decide +kernel
theorem dL_law_1028 : decode code 1028 = .ok (.iadd, 1) := by decide +kernel
theorem dL_law_1029 : decode code 1029 = .ok (.iaload, 1) := by decide +kernel
theorem dL_law_1030 : decode code 1030 = .ok (.invokevirtual 120, 3) := by decide +kernel
theorem dL_law_1033 : decode code 1033 = .ok (.lstore 6, 2) := by decide +kernel
theorem dL_law_1035 : decode code 1035 = .ok (.aload_n 2, 1) := by decide +kernel
theorem dL_law_1036 : decode code 1036 = .ok (.invokevirtual 75, 3) := by decide +kernel
theorem dL_law_1039 : decode code 1039 = .ok (.iload 5, 2) := by decide +kernel
theorem dL_law_1041 : decode code 1041 = .ok (.if_icmp .eq 5, 3) := by decide +kernel
theorem dL_law_1044 : decode code 1044 = .ok (.iconst 0, 1) := by decide +kernel
theorem dL_law_1045 : decode code 1045 = .ok (.ireturn, 1) := by decide +kernel
theorem dL_law_1046 : decode code 1046 = .ok (.iload 5, 2) := by decide +kernel
theorem dL_law_1048 : decode code 1048 = .ok (.ifCond .ne 14, 3) := by decide +kernel
theorem dL_law_1051 : decode code 1051 = .ok (.aload_n 3, 1) := by decide +kernel
theorem dL_law_1052 : decode code 1052 = .ok (.iconst 0, 1) := by decide +kernel
theorem dL_law_1053 : decode code 1053 = .ok (.laload, 1) := by decide +kernel
theorem dL_law_1054 : decode code 1054 = .ok (.lload 6, 2) := by decide +kernel
theorem dL_law_1056 : decode code 1056 = .ok (.lcmp, 1) := by decide +kernel
theorem dL_law_1057 : decode code 1057 = .ok (.ifCond .eq 5, 3) := by decide +kernel
theorem dL_law_1060 : decode code 1060 = .ok (.iconst 0, 1) := by decide +kernel
theorem dL_law_1061 : decode code 1061 = .ok (.ireturn, 1) := by decide +kernel
theorem dL_law_1062 : decode code 1062 = .ok (.goto 3, 3) := by decide +kernel
theorem dL_law_1065 : decode code 1065 = .ok (.iinc 4 4, 3) := by decide +kernel
theorem dL_law_1068 : decode code 1068 = .ok (.goto (-1045), 3) := by decide +kernel
theorem dL_law_1071 : decode code 1071 = .ok (.iconst 1, 1) := by decide +kernel
theorem dL_law_1072 : decode code 1072 = .ok (.ireturn, 1) := by decide +kernel
