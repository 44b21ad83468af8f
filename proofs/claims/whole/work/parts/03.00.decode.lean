theorem dX0_init_0 : decode cX0_init 0 = .ok (.aload_n 0, 1) := by decide +kernel
theorem dX0_init_1 : decode cX0_init 1 = .ok (.invokespecial 3, 3) := by decide +kernel
theorem dX0_init_4 : decode cX0_init 4 = .ok (.aload_n 0, 1) := by decide +kernel
theorem dX0_init_5 : decode cX0_init 5 = .ok (.sipush 180, 3) := by decide +kernel
theorem dX0_init_8 : decode cX0_init 8 = .ok (.newarray .int, 2) := by decide +kernel
theorem dX0_init_10 : decode cX0_init 10 = .ok (.putfield 9, 3) := by decide +kernel
theorem dX0_init_13 : decode cX0_init 13 = .ok (.return_, 1) := by decide +kernel
theorem dX0_paint_0 : decode cX0_paint 0 = .ok (.iload_n 1, 1) := by decide +kernel
theorem dX0_paint_1 : decode cX0_paint 1 = .ok (.iload_n 2, 1) := by decide +kernel
theorem dX0_paint_2 : decode cX0_paint 2 = .ok (.iload_n 3, 1) := by decide +kernel
theorem dX0_paint_3 : decode cX0_paint 3 = .ok (.invokestatic 15, 3) := by decide +kernel
theorem dX0_paint_6 : decode cX0_paint 6 = .ok (.ifCond .ne 5, 3) := by decide +kernel
theorem dX0_paint_9 : decode cX0_paint 9 = .ok (.iconst 0, 1) := by decide +kernel
theorem dX0_paint_10 : decode cX0_paint 10 = .ok (.ireturn, 1) := by decide +kernel
theorem dX0_paint_11 : decode cX0_paint 11 = .ok (.iload_n 1, 1) := by decide +kernel
theorem dX0_paint_12 : decode cX0_paint 12 = .ok (.iload_n 2, 1) := by decide +kernel
theorem dX0_paint_13 : decode cX0_paint 13 = .ok (.iload_n 3, 1) := by decide +kernel
theorem dX0_paint_14 : decode cX0_paint 14 = .ok (.invokestatic 19, 3) := by decide +kernel
theorem dX0_paint_17 : decode cX0_paint 17 = .ok (.istore 5, 2) := by decide +kernel
theorem dX0_paint_19 : decode cX0_paint 19 = .ok (.aload_n 0, 1) := by decide +kernel
theorem dX0_paint_20 : decode cX0_paint 20 = .ok (.getfield 9, 3) := by decide +kernel
theorem dX0_paint_23 : decode cX0_paint 23 = .ok (.iload 5, 2) := by decide +kernel
theorem dX0_paint_25 : decode cX0_paint 25 = .ok (.iaload, 1) := by decide +kernel
theorem dX0_paint_26 : decode cX0_paint 26 = .ok (.istore 6, 2) := by decide +kernel
theorem dX0_paint_28 : decode cX0_paint 28 = .ok (.aload_n 0, 1) := by decide +kernel
theorem dX0_paint_29 : decode cX0_paint 29 = .ok (.getfield 9, 3) := by decide +kernel
theorem dX0_paint_32 : decode cX0_paint 32 = .ok (.iload 5, 2) := by decide +kernel
theorem dX0_paint_34 : decode cX0_paint 34 = .ok (.iload 4, 2) := by decide +kernel
theorem dX0_paint_36 : decode cX0_paint 36 = .ok (.iastore, 1) := by decide +kernel
theorem dX0_paint_37 : decode cX0_paint 37 = .ok (.iload 6, 2) := by decide +kernel
theorem dX0_paint_39 : decode cX0_paint 39 = .ok (.ireturn, 1) := by decide +kernel
theorem dX0_colourAt_0 : decode cX0_colourAt 0 = .ok (.iload_n 1, 1) := by decide +kernel
theorem dX0_colourAt_1 : decode cX0_colourAt 1 = .ok (.iload_n 2, 1) := by decide +kernel
theorem dX0_colourAt_2 : decode cX0_colourAt 2 = .ok (.iload_n 3, 1) := by decide +kernel
theorem dX0_colourAt_3 : decode cX0_colourAt 3 = .ok (.invokestatic 15, 3) := by decide +kernel
theorem dX0_colourAt_6 : decode cX0_colourAt 6 = .ok (.ifCond .eq 17, 3) := by decide +kernel
theorem dX0_colourAt_9 : decode cX0_colourAt 9 = .ok (.aload_n 0, 1) := by decide +kernel
theorem dX0_colourAt_10 : decode cX0_colourAt 10 = .ok (.getfield 9, 3) := by decide +kernel
theorem dX0_colourAt_13 : decode cX0_colourAt 13 = .ok (.iload_n 1, 1) := by decide +kernel
theorem dX0_colourAt_14 : decode cX0_colourAt 14 = .ok (.iload_n 2, 1) := by decide +kernel
theorem dX0_colourAt_15 : decode cX0_colourAt 15 = .ok (.iload_n 3, 1) := by decide +kernel
theorem dX0_colourAt_16 : decode cX0_colourAt 16 = .ok (.invokestatic 19, 3) := by decide +kernel
theorem dX0_colourAt_19 : decode cX0_colourAt 19 = .ok (.iaload, 1) := by decide +kernel
theorem dX0_colourAt_20 : decode cX0_colourAt 20 = .ok (.goto 4, 3) := by decide +kernel
theorem dX0_colourAt_23 : decode cX0_colourAt 23 = .ok (.iconst 0, 1) := by decide +kernel
theorem dX0_colourAt_24 : decode cX0_colourAt 24 = .ok (.ireturn, 1) := by decide +kernel
theorem dX0_isInner_0 : decode cX0_isInner 0 = .ok (.aload_n 0, 1) := by decide +kernel
theorem dX0_isInner_1 : decode cX0_isInner 1 = .ok (.iload_n 1, 1) := by decide +kernel
theorem dX0_isInner_2 : decode cX0_isInner 2 = .ok (.iload_n 2, 1) := by decide +kernel
theorem dX0_isInner_3 : decode cX0_isInner 3 = .ok (.iload_n 3, 1) := by decide +kernel
theorem dX0_isInner_4 : decode cX0_isInner 4 = .ok (.invokevirtual 23, 3) := by decide +kernel
theorem dX0_isInner_7 : decode cX0_isInner 7 = .ok (.ifCond .eq 79, 3) := by decide +kernel
theorem dX0_isInner_10 : decode cX0_isInner 10 = .ok (.aload_n 0, 1) := by decide +kernel
theorem dX0_isInner_11 : decode cX0_isInner 11 = .ok (.iload_n 1, 1) := by decide +kernel
theorem dX0_isInner_12 : decode cX0_isInner 12 = .ok (.iconst 1, 1) := by decide +kernel
theorem dX0_isInner_13 : decode cX0_isInner 13 = .ok (.isub, 1) := by decide +kernel
theorem dX0_isInner_14 : decode cX0_isInner 14 = .ok (.iload_n 2, 1) := by decide +kernel
theorem dX0_isInner_15 : decode cX0_isInner 15 = .ok (.iload_n 3, 1) := by decide +kernel
theorem dX0_isInner_16 : decode cX0_isInner 16 = .ok (.invokevirtual 23, 3) := by decide +kernel
theorem dX0_isInner_19 : decode cX0_isInner 19 = .ok (.ifCond .eq 67, 3) := by decide +kernel
theorem dX0_isInner_22 : decode cX0_isInner 22 = .ok (.aload_n 0, 1) := by decide +kernel
theorem dX0_isInner_23 : decode cX0_isInner 23 = .ok (.iload_n 1, 1) := by decide +kernel
theorem dX0_isInner_24 : decode cX0_isInner 24 = .ok (.iconst 1, 1) := by decide +kernel
theorem dX0_isInner_25 : decode cX0_isInner 25 = .ok (.iadd, 1) := by decide +kernel
theorem dX0_isInner_26 : decode cX0_isInner 26 = .ok (.iload_n 2, 1) := by decide +kernel
theorem dX0_isInner_27 : decode cX0_isInner 27 = .ok (.iload_n 3, 1) := by decide +kernel
theorem dX0_isInner_28 : decode cX0_isInner 28 = .ok (.invokevirtual 23, 3) := by decide +kernel
theorem dX0_isInner_31 : decode cX0_isInner 31 = .ok (.ifCond .eq 55, 3) := by decide +kernel
theorem dX0_isInner_34 : decode cX0_isInner 34 = .ok (.aload_n 0, 1) := by decide +kernel
theorem dX0_isInner_35 : decode cX0_isInner 35 = .ok (.iload_n 1, 1) := by decide +kernel
theorem dX0_isInner_36 : decode cX0_isInner 36 = .ok (.iload_n 2, 1) := by decide +kernel
theorem dX0_isInner_37 : decode cX0_isInner 37 = .ok (.iconst 1, 1) := by decide +kernel
theorem dX0_isInner_38 : decode cX0_isInner 38 = .ok (.isub, 1) := by decide +kernel
theorem dX0_isInner_39 : decode cX0_isInner 39 = .ok (.iload_n 3, 1) := by decide +kernel
theorem dX0_isInner_40 : decode cX0_isInner 40 = .ok (.invokevirtual 23, 3) := by decide +kernel
theorem dX0_isInner_43 : decode cX0_isInner 43 = .ok (.ifCond .eq 43, 3) := by decide +kernel
theorem dX0_isInner_46 : decode cX0_isInner 46 = .ok (.aload_n 0, 1) := by decide +kernel
theorem dX0_isInner_47 : decode cX0_isInner 47 = .ok (.iload_n 1, 1) := by decide +kernel
theorem dX0_isInner_48 : decode cX0_isInner 48 = .ok (.iload_n 2, 1) := by decide +kernel
theorem dX0_isInner_49 : decode cX0_isInner 49 = .ok (.iconst 1, 1) := by decide +kernel
theorem dX0_isInner_50 : decode cX0_isInner 50 = .ok (.iadd, 1) := by decide +kernel
theorem dX0_isInner_51 : decode cX0_isInner 51 = .ok (.iload_n 3, 1) := by decide +kernel
theorem dX0_isInner_52 : decode cX0_isInner 52 = .ok (.invokevirtual 23, 3) := by decide +kernel
theorem dX0_isInner_55 : decode cX0_isInner 55 = .ok (.ifCond .eq 31, 3) := by decide +kernel
theorem dX0_isInner_58 : decode cX0_isInner 58 = .ok (.aload_n 0, 1) := by decide +kernel
theorem dX0_isInner_59 : decode cX0_isInner 59 = .ok (.iload_n 1, 1) := by decide +kernel
theorem dX0_isInner_60 : decode cX0_isInner 60 = .ok (.iload_n 2, 1) := by decide +kernel
theorem dX0_isInner_61 : decode cX0_isInner 61 = .ok (.iload_n 3, 1) := by decide +kernel
theorem dX0_isInner_62 : decode cX0_isInner 62 = .ok (.iconst 1, 1) := by decide +kernel
theorem dX0_isInner_63 : decode cX0_isInner 63 = .ok (.isub, 1) := by decide +kernel
theorem dX0_isInner_64 : decode cX0_isInner 64 = .ok (.invokevirtual 23, 3) := by decide +kernel
theorem dX0_isInner_67 : decode cX0_isInner 67 = .ok (.ifCond .eq 19, 3) := by decide +kernel
theorem dX0_isInner_70 : decode cX0_isInner 70 = .ok (.aload_n 0, 1) := by decide +kernel
theorem dX0_isInner_71 : decode cX0_isInner 71 = .ok (.iload_n 1, 1) := by decide +kernel
theorem dX0_isInner_72 : decode cX0_isInner 72 = .ok (.iload_n 2, 1) := by decide +kernel
theorem dX0_isInner_73 : decode cX0_isInner 73 = .ok (.iload_n 3, 1) := by decide +kernel
theorem dX0_isInner_74 : decode cX0_isInner 74 = .ok (.iconst 1, 1) := by decide +kernel
theorem dX0_isInner_75 : decode cX0_isInner 75 = .ok (.iadd, 1) := by decide +kernel
theorem dX0_isInner_76 : decode cX0_isInner 76 = .ok (.invokevirtual 23, 3) := by decide +kernel
theorem dX0_isInner_79 : decode cX0_isInner 79 = .ok (.ifCond .eq 7, 3) := by decide +kernel
theorem dX0_isInner_82 : decode cX0_isInner 82 = .ok (.iconst 1, 1) := by decide +kernel
theorem dX0_isInner_83 : decode cX0_isInner 83 = .ok (.goto 4, 3) := by decide +kernel
theorem dX0_isInner_86 : decode cX0_isInner 86 = .ok (.iconst 0, 1) := by decide +kernel
theorem dX0_isInner_87 : decode cX0_isInner 87 = .ok (.ireturn, 1) := by decide +kernel
theorem dX0_countCells_0 : decode cX0_countCells 0 = .ok (.iconst 0, 1) := by decide +kernel
theorem dX0_countCells_1 : decode cX0_countCells 1 = .ok (.istore_n 1, 1) := by decide +kernel
theorem dX0_countCells_2 : decode cX0_countCells 2 = .ok (.iconst 0, 1) := by decide +kernel
theorem dX0_countCells_3 : decode cX0_countCells 3 = .ok (.istore_n 2, 1) := by decide +kernel
theorem dX0_countCells_4 : decode cX0_countCells 4 = .ok (.iload_n 2, 1) := by decide +kernel
theorem dX0_countCells_5 : decode cX0_countCells 5 = .ok (.sipush 180, 3) := by decide +kernel
theorem dX0_countCells_8 : decode cX0_countCells 8 = .ok (.if_icmp .ge 21, 3) := by decide +kernel
theorem dX0_countCells_11 : decode cX0_countCells 11 = .ok (.aload_n 0, 1) := by decide +kernel
theorem dX0_countCells_12 : decode cX0_countCells 12 = .ok (.getfield 9, 3) := by decide +kernel
theorem dX0_countCells_15 : decode cX0_countCells 15 = .ok (.iload_n 2, 1) := by decide +kernel
theorem dX0_countCells_16 : decode cX0_countCells 16 = .ok (.iaload, 1) := by decide +kernel
theorem dX0_countCells_17 : decode cX0_countCells 17 = .ok (.ifCond .eq 6, 3) := by decide +kernel
theorem dX0_countCells_20 : decode cX0_countCells 20 = .ok (.iinc 1 1, 3) := by decide +kernel
theorem dX0_countCells_23 : decode cX0_countCells 23 = .ok (.iinc 2 1, 3) := by decide +kernel
theorem dX0_countCells_26 : decode cX0_countCells 26 = .ok (.goto (-22), 3) := by decide +kernel
theorem dX0_countCells_29 : decode cX0_countCells 29 = .ok (.iload_n 1, 1) := by decide +kernel
theorem dX0_countCells_30 : decode cX0_countCells 30 = .ok (.ireturn, 1) := by decide +kernel
theorem dX0_countInner_0 : decode cX0_countInner 0 = .ok (.iconst 0, 1) := by decide +kernel
theorem dX0_countInner_1 : decode cX0_countInner 1 = .ok (.istore_n 1, 1) := by decide +kernel
theorem dX0_countInner_2 : decode cX0_countInner 2 = .ok (.iconst 1, 1) := by decide +kernel
theorem dX0_countInner_3 : decode cX0_countInner 3 = .ok (.istore_n 2, 1) := by decide +kernel
theorem dX0_countInner_4 : decode cX0_countInner 4 = .ok (.iload_n 2, 1) := by decide +kernel
theorem dX0_countInner_5 : decode cX0_countInner 5 = .ok (.iconst 4, 1) := by decide +kernel
theorem dX0_countInner_6 : decode cX0_countInner 6 = .ok (.if_icmp .ge 51, 3) := by decide +kernel
theorem dX0_countInner_9 : decode cX0_countInner 9 = .ok (.iconst 1, 1) := by decide +kernel
theorem dX0_countInner_10 : decode cX0_countInner 10 = .ok (.istore_n 3, 1) := by decide +kernel
theorem dX0_countInner_11 : decode cX0_countInner 11 = .ok (.iload_n 3, 1) := by decide +kernel
theorem dX0_countInner_12 : decode cX0_countInner 12 = .ok (.iconst 5, 1) := by decide +kernel
theorem dX0_countInner_13 : decode cX0_countInner 13 = .ok (.if_icmp .ge 38, 3) := by decide +kernel
theorem dX0_countInner_16 : decode cX0_countInner 16 = .ok (.iconst 1, 1) := by decide +kernel
theorem dX0_countInner_17 : decode cX0_countInner 17 = .ok (.istore 4, 2) := by decide +kernel
theorem dX0_countInner_19 : decode cX0_countInner 19 = .ok (.iload 4, 2) := by decide +kernel
theorem dX0_countInner_21 : decode cX0_countInner 21 = .ok (.iconst 5, 1) := by decide +kernel
theorem dX0_countInner_22 : decode cX0_countInner 22 = .ok (.if_icmp .ge 23, 3) := by decide +kernel
theorem dX0_countInner_25 : decode cX0_countInner 25 = .ok (.aload_n 0, 1) := by decide +kernel
theorem dX0_countInner_26 : decode cX0_countInner 26 = .ok (.iload 4, 2) := by decide +kernel
theorem dX0_countInner_28 : decode cX0_countInner 28 = .ok (.iload_n 3, 1) := by decide +kernel
theorem dX0_countInner_29 : decode cX0_countInner 29 = .ok (.iload_n 2, 1) := by decide +kernel
theorem dX0_countInner_30 : decode cX0_countInner 30 = .ok (.invokevirtual 26, 3) := by decide +kernel
theorem dX0_countInner_33 : decode cX0_countInner 33 = .ok (.ifCond .eq 6, 3) := by decide +kernel
theorem dX0_countInner_36 : decode cX0_countInner 36 = .ok (.iinc 1 1, 3) := by decide +kernel
theorem dX0_countInner_39 : decode cX0_countInner 39 = .ok (.iinc 4 1, 3) := by decide +kernel
theorem dX0_countInner_42 : decode cX0_countInner 42 = .ok (.goto (-23), 3) := by decide +kernel
theorem dX0_countInner_45 : decode cX0_countInner 45 = .ok (.iinc 3 1, 3) := by decide +kernel
theorem dX0_countInner_48 : decode cX0_countInner 48 = .ok (.goto (-37), 3) := by decide +kernel
theorem dX0_countInner_51 : decode cX0_countInner 51 = .ok (.iinc 2 1, 3) := by decide +kernel
theorem dX0_countInner_54 : decode cX0_countInner 54 = .ok (.goto (-50), 3) := by decide +kernel
theorem dX0_countInner_57 : decode cX0_countInner 57 = .ok (.iload_n 1, 1) := by decide +kernel
theorem dX0_countInner_58 : decode cX0_countInner 58 = .ok (.ireturn, 1) := by decide +kernel
theorem dX1_init_0 : decode cX1_init 0 = .ok (.aload_n 0, 1) := by decide +kernel
theorem dX1_init_1 : decode cX1_init 1 = .ok (.invokespecial 3, 3) := by decide +kernel
theorem dX1_init_4 : decode cX1_init 4 = .ok (.aload_n 0, 1) := by decide +kernel
theorem dX1_init_5 : decode cX1_init 5 = .ok (.bipush 7, 2) := by decide +kernel
theorem dX1_init_7 : decode cX1_init 7 = .ok (.newarray .int, 2) := by decide +kernel
theorem dX1_init_9 : decode cX1_init 9 = .ok (.putfield 9, 3) := by decide +kernel
theorem dX1_init_12 : decode cX1_init 12 = .ok (.aload_n 0, 1) := by decide +kernel
theorem dX1_init_13 : decode cX1_init 13 = .ok (.bipush 7, 2) := by decide +kernel
theorem dX1_init_15 : decode cX1_init 15 = .ok (.newarray .int, 2) := by decide +kernel
theorem dX1_init_17 : decode cX1_init 17 = .ok (.putfield 15, 3) := by decide +kernel
theorem dX1_init_20 : decode cX1_init 20 = .ok (.aload_n 0, 1) := by decide +kernel
theorem dX1_init_21 : decode cX1_init 21 = .ok (.bipush 7, 2) := by decide +kernel
theorem dX1_init_23 : decode cX1_init 23 = .ok (.newarray .int, 2) := by decide +kernel
theorem dX1_init_25 : decode cX1_init 25 = .ok (.putfield 18, 3) := by decide +kernel
theorem dX1_init_28 : decode cX1_init 28 = .ok (.aload_n 0, 1) := by decide +kernel
theorem dX1_init_29 : decode cX1_init 29 = .ok (.aload_n 1, 1) := by decide +kernel
theorem dX1_init_30 : decode cX1_init 30 = .ok (.putfield 21, 3) := by decide +kernel
theorem dX1_init_33 : decode cX1_init 33 = .ok (.return_, 1) := by decide +kernel
theorem dX1_fill_0 : decode cX1_fill 0 = .ok (.iload_n 1, 1) := by decide +kernel
theorem dX1_fill_1 : decode cX1_fill 1 = .ok (.invokestatic 25, 3) := by decide +kernel
theorem dX1_fill_4 : decode cX1_fill 4 = .ok (.ifCond .ne 5, 3) := by decide +kernel
theorem dX1_fill_7 : decode cX1_fill 7 = .ok (.iconst 0, 1) := by decide +kernel
theorem dX1_fill_8 : decode cX1_fill 8 = .ok (.ireturn, 1) := by decide +kernel
theorem dX1_fill_9 : decode cX1_fill 9 = .ok (.aload_n 0, 1) := by decide +kernel
theorem dX1_fill_10 : decode cX1_fill 10 = .ok (.getfield 9, 3) := by decide +kernel
theorem dX1_fill_13 : decode cX1_fill 13 = .ok (.iload_n 1, 1) := by decide +kernel
theorem dX1_fill_14 : decode cX1_fill 14 = .ok (.iaload, 1) := by decide +kernel
theorem dX1_fill_15 : decode cX1_fill 15 = .ok (.istore_n 3, 1) := by decide +kernel
theorem dX1_fill_16 : decode cX1_fill 16 = .ok (.aload_n 0, 1) := by decide +kernel
theorem dX1_fill_17 : decode cX1_fill 17 = .ok (.getfield 9, 3) := by decide +kernel
theorem dX1_fill_20 : decode cX1_fill 20 = .ok (.iload_n 1, 1) := by decide +kernel
theorem dX1_fill_21 : decode cX1_fill 21 = .ok (.iload_n 2, 1) := by decide +kernel
theorem dX1_fill_22 : decode cX1_fill 22 = .ok (.iastore, 1) := by decide +kernel
theorem dX1_fill_23 : decode cX1_fill 23 = .ok (.iload_n 3, 1) := by decide +kernel
theorem dX1_fill_24 : decode cX1_fill 24 = .ok (.ireturn, 1) := by decide +kernel
theorem dX1_shortOf_0 : decode cX1_shortOf 0 = .ok (.iload_n 1, 1) := by decide +kernel
theorem dX1_shortOf_1 : decode cX1_shortOf 1 = .ok (.invokestatic 25, 3) := by decide +kernel
theorem dX1_shortOf_4 : decode cX1_shortOf 4 = .ok (.ifCond .eq 12, 3) := by decide +kernel
theorem dX1_shortOf_7 : decode cX1_shortOf 7 = .ok (.aload_n 0, 1) := by decide +kernel
theorem dX1_shortOf_8 : decode cX1_shortOf 8 = .ok (.getfield 18, 3) := by decide +kernel
theorem dX1_shortOf_11 : decode cX1_shortOf 11 = .ok (.iload_n 1, 1) := by decide +kernel
theorem dX1_shortOf_12 : decode cX1_shortOf 12 = .ok (.iaload, 1) := by decide +kernel
theorem dX1_shortOf_13 : decode cX1_shortOf 13 = .ok (.goto 4, 3) := by decide +kernel
theorem dX1_shortOf_16 : decode cX1_shortOf 16 = .ok (.iconst 0, 1) := by decide +kernel
theorem dX1_shortOf_17 : decode cX1_shortOf 17 = .ok (.ireturn, 1) := by decide +kernel
theorem dX1_settle_0 : decode cX1_settle 0 = .ok (.aload_n 0, 1) := by decide +kernel
theorem dX1_settle_1 : decode cX1_settle 1 = .ok (.invokevirtual 29, 3) := by decide +kernel
theorem dX1_settle_4 : decode cX1_settle 4 = .ok (.bipush 6, 2) := by decide +kernel
theorem dX1_settle_6 : decode cX1_settle 6 = .ok (.istore_n 1, 1) := by decide +kernel
theorem dX1_settle_7 : decode cX1_settle 7 = .ok (.iload_n 1, 1) := by decide +kernel
theorem dX1_settle_8 : decode cX1_settle 8 = .ok (.ifCond .le 56, 3) := by decide +kernel
theorem dX1_settle_11 : decode cX1_settle 11 = .ok (.aload_n 0, 1) := by decide +kernel
theorem dX1_settle_12 : decode cX1_settle 12 = .ok (.getfield 18, 3) := by decide +kernel
theorem dX1_settle_15 : decode cX1_settle 15 = .ok (.iload_n 1, 1) := by decide +kernel
theorem dX1_settle_16 : decode cX1_settle 16 = .ok (.iaload, 1) := by decide +kernel
theorem dX1_settle_17 : decode cX1_settle 17 = .ok (.istore_n 2, 1) := by decide +kernel
theorem dX1_settle_18 : decode cX1_settle 18 = .ok (.iconst 0, 1) := by decide +kernel
theorem dX1_settle_19 : decode cX1_settle 19 = .ok (.istore_n 3, 1) := by decide +kernel
theorem dX1_settle_20 : decode cX1_settle 20 = .ok (.iload_n 3, 1) := by decide +kernel
theorem dX1_settle_21 : decode cX1_settle 21 = .ok (.iload_n 2, 1) := by decide +kernel
theorem dX1_settle_22 : decode cX1_settle 22 = .ok (.if_icmp .ge 36, 3) := by decide +kernel
theorem dX1_settle_25 : decode cX1_settle 25 = .ok (.aload_n 0, 1) := by decide +kernel
theorem dX1_settle_26 : decode cX1_settle 26 = .ok (.getstatic 32, 3) := by decide +kernel
theorem dX1_settle_29 : decode cX1_settle 29 = .ok (.iload_n 1, 1) := by decide +kernel
theorem dX1_settle_30 : decode cX1_settle 30 = .ok (.iaload, 1) := by decide +kernel
theorem dX1_settle_31 : decode cX1_settle 31 = .ok (.getstatic 35, 3) := by decide +kernel
theorem dX1_settle_34 : decode cX1_settle 34 = .ok (.iload_n 1, 1) := by decide +kernel
theorem dX1_settle_35 : decode cX1_settle 35 = .ok (.iaload, 1) := by decide +kernel
theorem dX1_settle_36 : decode cX1_settle 36 = .ok (.invokevirtual 38, 3) := by decide +kernel
theorem dX1_settle_39 : decode cX1_settle 39 = .ok (.ifCond .eq 13, 3) := by decide +kernel
theorem dX1_settle_42 : decode cX1_settle 42 = .ok (.aload_n 0, 1) := by decide +kernel
theorem dX1_settle_43 : decode cX1_settle 43 = .ok (.getfield 18, 3) := by decide +kernel
theorem dX1_settle_46 : decode cX1_settle 46 = .ok (.iload_n 1, 1) := by decide +kernel
theorem dX1_settle_47 : decode cX1_settle 47 = .ok (.dup2, 1) := by decide +kernel
theorem dX1_settle_48 : decode cX1_settle 48 = .ok (.iaload, 1) := by decide +kernel
theorem dX1_settle_49 : decode cX1_settle 49 = .ok (.iconst 1, 1) := by decide +kernel
theorem dX1_settle_50 : decode cX1_settle 50 = .ok (.isub, 1) := by decide +kernel
theorem dX1_settle_51 : decode cX1_settle 51 = .ok (.iastore, 1) := by decide +kernel
theorem dX1_settle_52 : decode cX1_settle 52 = .ok (.iinc 3 1, 3) := by decide +kernel
theorem dX1_settle_55 : decode cX1_settle 55 = .ok (.goto (-35), 3) := by decide +kernel
theorem dX1_settle_58 : decode cX1_settle 58 = .ok (.iinc 1 (-1), 3) := by decide +kernel
theorem dX1_settle_61 : decode cX1_settle 61 = .ok (.goto (-54), 3) := by decide +kernel
theorem dX1_settle_64 : decode cX1_settle 64 = .ok (.return_, 1) := by decide +kernel
theorem dX1_weighNeeds_0 : decode cX1_weighNeeds 0 = .ok (.iconst 0, 1) := by decide +kernel
theorem dX1_weighNeeds_1 : decode cX1_weighNeeds 1 = .ok (.istore_n 1, 1) := by decide +kernel
theorem dX1_weighNeeds_2 : decode cX1_weighNeeds 2 = .ok (.iload_n 1, 1) := by decide +kernel
theorem dX1_weighNeeds_3 : decode cX1_weighNeeds 3 = .ok (.bipush 7, 2) := by decide +kernel
theorem dX1_weighNeeds_5 : decode cX1_weighNeeds 5 = .ok (.if_icmp .ge 28, 3) := by decide +kernel
theorem dX1_weighNeeds_8 : decode cX1_weighNeeds 8 = .ok (.aload_n 0, 1) := by decide +kernel
theorem dX1_weighNeeds_9 : decode cX1_weighNeeds 9 = .ok (.getfield 15, 3) := by decide +kernel
theorem dX1_weighNeeds_12 : decode cX1_weighNeeds 12 = .ok (.iload_n 1, 1) := by decide +kernel
theorem dX1_weighNeeds_13 : decode cX1_weighNeeds 13 = .ok (.aload_n 0, 1) := by decide +kernel
theorem dX1_weighNeeds_14 : decode cX1_weighNeeds 14 = .ok (.getfield 9, 3) := by decide +kernel
theorem dX1_weighNeeds_17 : decode cX1_weighNeeds 17 = .ok (.iload_n 1, 1) := by decide +kernel
theorem dX1_weighNeeds_18 : decode cX1_weighNeeds 18 = .ok (.iaload, 1) := by decide +kernel
theorem dX1_weighNeeds_19 : decode cX1_weighNeeds 19 = .ok (.iastore, 1) := by decide +kernel
theorem dX1_weighNeeds_20 : decode cX1_weighNeeds 20 = .ok (.aload_n 0, 1) := by decide +kernel
theorem dX1_weighNeeds_21 : decode cX1_weighNeeds 21 = .ok (.getfield 18, 3) := by decide +kernel
theorem dX1_weighNeeds_24 : decode cX1_weighNeeds 24 = .ok (.iload_n 1, 1) := by decide +kernel
theorem dX1_weighNeeds_25 : decode cX1_weighNeeds 25 = .ok (.iconst 0, 1) := by decide +kernel
theorem dX1_weighNeeds_26 : decode cX1_weighNeeds 26 = .ok (.iastore, 1) := by decide +kernel
theorem dX1_weighNeeds_27 : decode cX1_weighNeeds 27 = .ok (.iinc 1 1, 3) := by decide +kernel
theorem dX1_weighNeeds_30 : decode cX1_weighNeeds 30 = .ok (.goto (-28), 3) := by decide +kernel
theorem dX1_weighNeeds_33 : decode cX1_weighNeeds 33 = .ok (.iconst 0, 1) := by decide +kernel
theorem dX1_weighNeeds_34 : decode cX1_weighNeeds 34 = .ok (.istore_n 1, 1) := by decide +kernel
theorem dX1_weighNeeds_35 : decode cX1_weighNeeds 35 = .ok (.iload_n 1, 1) := by decide +kernel
theorem dX1_weighNeeds_36 : decode cX1_weighNeeds 36 = .ok (.aload_n 0, 1) := by decide +kernel
theorem dX1_weighNeeds_37 : decode cX1_weighNeeds 37 = .ok (.getfield 21, 3) := by decide +kernel
theorem dX1_weighNeeds_40 : decode cX1_weighNeeds 40 = .ok (.invokevirtual 42, 3) := by decide +kernel
theorem dX1_weighNeeds_43 : decode cX1_weighNeeds 43 = .ok (.if_icmp .ge 69, 3) := by decide +kernel
theorem dX1_weighNeeds_46 : decode cX1_weighNeeds 46 = .ok (.aload_n 0, 1) := by decide +kernel
theorem dX1_weighNeeds_47 : decode cX1_weighNeeds 47 = .ok (.getfield 21, 3) := by decide +kernel
theorem dX1_weighNeeds_50 : decode cX1_weighNeeds 50 = .ok (.iload_n 1, 1) := by decide +kernel
theorem dX1_weighNeeds_51 : decode cX1_weighNeeds 51 = .ok (.iconst 0, 1) := by decide +kernel
theorem dX1_weighNeeds_52 : decode cX1_weighNeeds 52 = .ok (.invokevirtual 48, 3) := by decide +kernel
theorem dX1_weighNeeds_55 : decode cX1_weighNeeds 55 = .ok (.istore_n 2, 1) := by decide +kernel
theorem dX1_weighNeeds_56 : decode cX1_weighNeeds 56 = .ok (.aload_n 0, 1) := by decide +kernel
theorem dX1_weighNeeds_57 : decode cX1_weighNeeds 57 = .ok (.getfield 21, 3) := by decide +kernel
theorem dX1_weighNeeds_60 : decode cX1_weighNeeds 60 = .ok (.iload_n 1, 1) := by decide +kernel
theorem dX1_weighNeeds_61 : decode cX1_weighNeeds 61 = .ok (.invokevirtual 52, 3) := by decide +kernel
theorem dX1_weighNeeds_64 : decode cX1_weighNeeds 64 = .ok (.ifCond .eq 42, 3) := by decide +kernel
theorem dX1_weighNeeds_67 : decode cX1_weighNeeds 67 = .ok (.iload_n 2, 1) := by decide +kernel
theorem dX1_weighNeeds_68 : decode cX1_weighNeeds 68 = .ok (.invokestatic 25, 3) := by decide +kernel
theorem dX1_weighNeeds_71 : decode cX1_weighNeeds 71 = .ok (.ifCond .eq 35, 3) := by decide +kernel
theorem dX1_weighNeeds_74 : decode cX1_weighNeeds 74 = .ok (.aload_n 0, 1) := by decide +kernel
theorem dX1_weighNeeds_75 : decode cX1_weighNeeds 75 = .ok (.getfield 15, 3) := by decide +kernel
theorem dX1_weighNeeds_78 : decode cX1_weighNeeds 78 = .ok (.iload_n 2, 1) := by decide +kernel
theorem dX1_weighNeeds_79 : decode cX1_weighNeeds 79 = .ok (.iaload, 1) := by decide +kernel
theorem dX1_weighNeeds_80 : decode cX1_weighNeeds 80 = .ok (.ifCond .le 16, 3) := by decide +kernel
theorem dX1_weighNeeds_83 : decode cX1_weighNeeds 83 = .ok (.aload_n 0, 1) := by decide +kernel
theorem dX1_weighNeeds_84 : decode cX1_weighNeeds 84 = .ok (.getfield 15, 3) := by decide +kernel
theorem dX1_weighNeeds_87 : decode cX1_weighNeeds 87 = .ok (.iload_n 2, 1) := by decide +kernel
theorem dX1_weighNeeds_88 : decode cX1_weighNeeds 88 = .ok (.dup2, 1) := by decide +kernel
theorem dX1_weighNeeds_89 : decode cX1_weighNeeds 89 = .ok (.iaload, 1) := by decide +kernel
theorem dX1_weighNeeds_90 : decode cX1_weighNeeds 90 = .ok (.iconst 1, 1) := by decide +kernel
theorem dX1_weighNeeds_91 : decode cX1_weighNeeds 91 = .ok (.isub, 1) := by decide +kernel
theorem dX1_weighNeeds_92 : decode cX1_weighNeeds 92 = .ok (.iastore, 1) := by decide +kernel
theorem dX1_weighNeeds_93 : decode cX1_weighNeeds 93 = .ok (.goto 13, 3) := by decide +kernel
theorem dX1_weighNeeds_96 : decode cX1_weighNeeds 96 = .ok (.aload_n 0, 1) := by decide +kernel
theorem dX1_weighNeeds_97 : decode cX1_weighNeeds 97 = .ok (.getfield 18, 3) := by decide +kernel
theorem dX1_weighNeeds_100 : decode cX1_weighNeeds 100 = .ok (.iload_n 2, 1) := by decide +kernel
theorem dX1_weighNeeds_101 : decode cX1_weighNeeds 101 = .ok (.dup2, 1) := by decide +kernel
theorem dX1_weighNeeds_102 : decode cX1_weighNeeds 102 = .ok (.iaload, 1) := by decide +kernel
theorem dX1_weighNeeds_103 : decode cX1_weighNeeds 103 = .ok (.iconst 1, 1) := by decide +kernel
theorem dX1_weighNeeds_104 : decode cX1_weighNeeds 104 = .ok (.iadd, 1) := by decide +kernel
theorem dX1_weighNeeds_105 : decode cX1_weighNeeds 105 = .ok (.iastore, 1) := by decide +kernel
theorem dX1_weighNeeds_106 : decode cX1_weighNeeds 106 = .ok (.iinc 1 1, 3) := by decide +kernel
theorem dX1_weighNeeds_109 : decode cX1_weighNeeds 109 = .ok (.goto (-74), 3) := by decide +kernel
theorem dX1_weighNeeds_112 : decode cX1_weighNeeds 112 = .ok (.return_, 1) := by decide +kernel
theorem dX1_takeTwo_0 : decode cX1_takeTwo 0 = .ok (.iload_n 1, 1) := by decide +kernel
theorem dX1_takeTwo_1 : decode cX1_takeTwo 1 = .ok (.iload_n 2, 1) := by decide +kernel
theorem dX1_takeTwo_2 : decode cX1_takeTwo 2 = .ok (.if_icmp .ne 7, 3) := by decide +kernel
theorem dX1_takeTwo_5 : decode cX1_takeTwo 5 = .ok (.iconst 2, 1) := by decide +kernel
theorem dX1_takeTwo_6 : decode cX1_takeTwo 6 = .ok (.goto 4, 3) := by decide +kernel
theorem dX1_takeTwo_9 : decode cX1_takeTwo 9 = .ok (.iconst 1, 1) := by decide +kernel
theorem dX1_takeTwo_10 : decode cX1_takeTwo 10 = .ok (.istore_n 3, 1) := by decide +kernel
theorem dX1_takeTwo_11 : decode cX1_takeTwo 11 = .ok (.iload_n 1, 1) := by decide +kernel
theorem dX1_takeTwo_12 : decode cX1_takeTwo 12 = .ok (.invokestatic 25, 3) := by decide +kernel
theorem dX1_takeTwo_15 : decode cX1_takeTwo 15 = .ok (.ifCond .eq 30, 3) := by decide +kernel
theorem dX1_takeTwo_18 : decode cX1_takeTwo 18 = .ok (.iload_n 2, 1) := by decide +kernel
theorem dX1_takeTwo_19 : decode cX1_takeTwo 19 = .ok (.invokestatic 25, 3) := by decide +kernel
theorem dX1_takeTwo_22 : decode cX1_takeTwo 22 = .ok (.ifCond .eq 23, 3) := by decide +kernel
theorem dX1_takeTwo_25 : decode cX1_takeTwo 25 = .ok (.aload_n 0, 1) := by decide +kernel
theorem dX1_takeTwo_26 : decode cX1_takeTwo 26 = .ok (.getfield 15, 3) := by decide +kernel
theorem dX1_takeTwo_29 : decode cX1_takeTwo 29 = .ok (.iload_n 1, 1) := by decide +kernel
theorem dX1_takeTwo_30 : decode cX1_takeTwo 30 = .ok (.iaload, 1) := by decide +kernel
theorem dX1_takeTwo_31 : decode cX1_takeTwo 31 = .ok (.iload_n 3, 1) := by decide +kernel
theorem dX1_takeTwo_32 : decode cX1_takeTwo 32 = .ok (.if_icmp .lt 13, 3) := by decide +kernel
theorem dX1_takeTwo_35 : decode cX1_takeTwo 35 = .ok (.aload_n 0, 1) := by decide +kernel
theorem dX1_takeTwo_36 : decode cX1_takeTwo 36 = .ok (.getfield 15, 3) := by decide +kernel
theorem dX1_takeTwo_39 : decode cX1_takeTwo 39 = .ok (.iload_n 2, 1) := by decide +kernel
theorem dX1_takeTwo_40 : decode cX1_takeTwo 40 = .ok (.iaload, 1) := by decide +kernel
theorem dX1_takeTwo_41 : decode cX1_takeTwo 41 = .ok (.iload_n 3, 1) := by decide +kernel
theorem dX1_takeTwo_42 : decode cX1_takeTwo 42 = .ok (.if_icmp .ge 5, 3) := by decide +kernel
theorem dX1_takeTwo_45 : decode cX1_takeTwo 45 = .ok (.iconst 0, 1) := by decide +kernel
theorem dX1_takeTwo_46 : decode cX1_takeTwo 46 = .ok (.ireturn, 1) := by decide +kernel
theorem dX1_takeTwo_47 : decode cX1_takeTwo 47 = .ok (.aload_n 0, 1) := by decide +kernel
theorem dX1_takeTwo_48 : decode cX1_takeTwo 48 = .ok (.getfield 15, 3) := by decide +kernel
theorem dX1_takeTwo_51 : decode cX1_takeTwo 51 = .ok (.iload_n 1, 1) := by decide +kernel
theorem dX1_takeTwo_52 : decode cX1_takeTwo 52 = .ok (.dup2, 1) := by decide +kernel
theorem dX1_takeTwo_53 : decode cX1_takeTwo 53 = .ok (.iaload, 1) := by decide +kernel
theorem dX1_takeTwo_54 : decode cX1_takeTwo 54 = .ok (.iconst 1, 1) := by decide +kernel
theorem dX1_takeTwo_55 : decode cX1_takeTwo 55 = .ok (.isub, 1) := by decide +kernel
theorem dX1_takeTwo_56 : decode cX1_takeTwo 56 = .ok (.iastore, 1) := by decide +kernel
theorem dX1_takeTwo_57 : decode cX1_takeTwo 57 = .ok (.aload_n 0, 1) := by decide +kernel
theorem dX1_takeTwo_58 : decode cX1_takeTwo 58 = .ok (.getfield 15, 3) := by decide +kernel
theorem dX1_takeTwo_61 : decode cX1_takeTwo 61 = .ok (.iload_n 2, 1) := by decide +kernel
theorem dX1_takeTwo_62 : decode cX1_takeTwo 62 = .ok (.dup2, 1) := by decide +kernel
theorem dX1_takeTwo_63 : decode cX1_takeTwo 63 = .ok (.iaload, 1) := by decide +kernel
theorem dX1_takeTwo_64 : decode cX1_takeTwo 64 = .ok (.iconst 1, 1) := by decide +kernel
theorem dX1_takeTwo_65 : decode cX1_takeTwo 65 = .ok (.isub, 1) := by decide +kernel
theorem dX1_takeTwo_66 : decode cX1_takeTwo 66 = .ok (.iastore, 1) := by decide +kernel
theorem dX1_takeTwo_67 : decode cX1_takeTwo 67 = .ok (.iconst 1, 1) := by decide +kernel
theorem dX1_takeTwo_68 : decode cX1_takeTwo 68 = .ok (.ireturn, 1) := by decide +kernel
theorem dX2_init_0 : decode cX2_init 0 = .ok (.aload_n 0, 1) := by decide +kernel
theorem dX2_init_1 : decode cX2_init 1 = .ok (.invokespecial 3, 3) := by decide +kernel
theorem dX2_init_4 : decode cX2_init 4 = .ok (.aload_n 0, 1) := by decide +kernel
theorem dX2_init_5 : decode cX2_init 5 = .ok (.bipush 40, 2) := by decide +kernel
theorem dX2_init_7 : decode cX2_init 7 = .ok (.newarray .int, 2) := by decide +kernel
theorem dX2_init_9 : decode cX2_init 9 = .ok (.putfield 9, 3) := by decide +kernel
theorem dX2_init_12 : decode cX2_init 12 = .ok (.aload_n 0, 1) := by decide +kernel
theorem dX2_init_13 : decode cX2_init 13 = .ok (.bipush 40, 2) := by decide +kernel
theorem dX2_init_15 : decode cX2_init 15 = .ok (.newarray .int, 2) := by decide +kernel
theorem dX2_init_17 : decode cX2_init 17 = .ok (.putfield 15, 3) := by decide +kernel
theorem dX2_init_20 : decode cX2_init 20 = .ok (.aload_n 0, 1) := by decide +kernel
theorem dX2_init_21 : decode cX2_init 21 = .ok (.bipush 40, 2) := by decide +kernel
theorem dX2_init_23 : decode cX2_init 23 = .ok (.newarray .int, 2) := by decide +kernel
theorem dX2_init_25 : decode cX2_init 25 = .ok (.putfield 18, 3) := by decide +kernel
theorem dX2_init_28 : decode cX2_init 28 = .ok (.aload_n 0, 1) := by decide +kernel
theorem dX2_init_29 : decode cX2_init 29 = .ok (.bipush 40, 2) := by decide +kernel
theorem dX2_init_31 : decode cX2_init 31 = .ok (.newarray .int, 2) := by decide +kernel
theorem dX2_init_33 : decode cX2_init 33 = .ok (.putfield 21, 3) := by decide +kernel
theorem dX2_init_36 : decode cX2_init 36 = .ok (.aload_n 0, 1) := by decide +kernel
theorem dX2_init_37 : decode cX2_init 37 = .ok (.bipush 40, 2) := by decide +kernel
theorem dX2_init_39 : decode cX2_init 39 = .ok (.newarray .int, 2) := by decide +kernel
theorem dX2_init_41 : decode cX2_init 41 = .ok (.putfield 24, 3) := by decide +kernel
theorem dX2_init_44 : decode cX2_init 44 = .ok (.aload_n 0, 1) := by decide +kernel
theorem dX2_init_45 : decode cX2_init 45 = .ok (.bipush 40, 2) := by decide +kernel
theorem dX2_init_47 : decode cX2_init 47 = .ok (.newarray .int, 2) := by decide +kernel
theorem dX2_init_49 : decode cX2_init 49 = .ok (.putfield 27, 3) := by decide +kernel
theorem dX2_init_52 : decode cX2_init 52 = .ok (.aload_n 0, 1) := by decide +kernel
theorem dX2_init_53 : decode cX2_init 53 = .ok (.bipush 40, 2) := by decide +kernel
theorem dX2_init_55 : decode cX2_init 55 = .ok (.newarray .long, 2) := by decide +kernel
theorem dX2_init_57 : decode cX2_init 57 = .ok (.putfield 30, 3) := by decide +kernel
theorem dX2_init_60 : decode cX2_init 60 = .ok (.aload_n 0, 1) := by decide +kernel
theorem dX2_init_61 : decode cX2_init 61 = .ok (.bipush 40, 2) := by decide +kernel
theorem dX2_init_63 : decode cX2_init 63 = .ok (.newarray .long, 2) := by decide +kernel
theorem dX2_init_65 : decode cX2_init 65 = .ok (.putfield 34, 3) := by decide +kernel
theorem dX2_init_68 : decode cX2_init 68 = .ok (.aload_n 0, 1) := by decide +kernel
theorem dX2_init_69 : decode cX2_init 69 = .ok (.iconst 5, 1) := by decide +kernel
theorem dX2_init_70 : decode cX2_init 70 = .ok (.newarray .long, 2) := by decide +kernel
theorem dX2_init_72 : decode cX2_init 72 = .ok (.putfield 37, 3) := by decide +kernel
theorem dX2_init_75 : decode cX2_init 75 = .ok (.aload_n 0, 1) := by decide +kernel
theorem dX2_init_76 : decode cX2_init 76 = .ok (.sipush 180, 3) := by decide +kernel
theorem dX2_init_79 : decode cX2_init 79 = .ok (.newarray .int, 2) := by decide +kernel
theorem dX2_init_81 : decode cX2_init 81 = .ok (.putfield 40, 3) := by decide +kernel
theorem dX2_init_84 : decode cX2_init 84 = .ok (.return_, 1) := by decide +kernel
theorem dX2_alongX_0 : decode cX2_alongX 0 = .ok (.iload_n 0, 1) := by decide +kernel
theorem dX2_alongX_1 : decode cX2_alongX 1 = .ok (.invokestatic 43, 3) := by decide +kernel
theorem dX2_alongX_4 : decode cX2_alongX 4 = .ok (.ifCond .ne 5, 3) := by decide +kernel
theorem dX2_alongX_7 : decode cX2_alongX 7 = .ok (.iconst 0, 1) := by decide +kernel
theorem dX2_alongX_8 : decode cX2_alongX 8 = .ok (.ireturn, 1) := by decide +kernel
theorem dX2_alongX_9 : decode cX2_alongX 9 = .ok (.iload_n 1, 1) := by decide +kernel
theorem dX2_alongX_10 : decode cX2_alongX 10 = .ok (.ifCond .ne 11, 3) := by decide +kernel
theorem dX2_alongX_13 : decode cX2_alongX 13 = .ok (.getstatic 47, 3) := by decide +kernel
theorem dX2_alongX_16 : decode cX2_alongX 16 = .ok (.iload_n 0, 1) := by decide +kernel
theorem dX2_alongX_17 : decode cX2_alongX 17 = .ok (.iaload, 1) := by decide +kernel
theorem dX2_alongX_18 : decode cX2_alongX 18 = .ok (.goto 8, 3) := by decide +kernel
theorem dX2_alongX_21 : decode cX2_alongX 21 = .ok (.getstatic 50, 3) := by decide +kernel
theorem dX2_alongX_24 : decode cX2_alongX 24 = .ok (.iload_n 0, 1) := by decide +kernel
theorem dX2_alongX_25 : decode cX2_alongX 25 = .ok (.iaload, 1) := by decide +kernel
theorem dX2_alongX_26 : decode cX2_alongX 26 = .ok (.ireturn, 1) := by decide +kernel
theorem dX2_alongY_0 : decode cX2_alongY 0 = .ok (.iload_n 0, 1) := by decide +kernel
theorem dX2_alongY_1 : decode cX2_alongY 1 = .ok (.iconst 1, 1) := by decide +kernel
theorem dX2_alongY_2 : decode cX2_alongY 2 = .ok (.iload_n 1, 1) := by decide +kernel
theorem dX2_alongY_3 : decode cX2_alongY 3 = .ok (.isub, 1) := by decide +kernel
theorem dX2_alongY_4 : decode cX2_alongY 4 = .ok (.invokestatic 53, 3) := by decide +kernel
theorem dX2_alongY_7 : decode cX2_alongY 7 = .ok (.ireturn, 1) := by decide +kernel
theorem dX2_footprint_0 : decode cX2_footprint 0 = .ok (.lconst 1, 1) := by decide +kernel
theorem dX2_footprint_1 : decode cX2_footprint 1 = .ok (.iload_n 0, 1) := by decide +kernel
theorem dX2_footprint_2 : decode cX2_footprint 2 = .ok (.iload_n 1, 1) := by decide +kernel
theorem dX2_footprint_3 : decode cX2_footprint 3 = .ok (.invokestatic 53, 3) := by decide +kernel
theorem dX2_footprint_6 : decode cX2_footprint 6 = .ok (.lshl, 1) := by decide +kernel
theorem dX2_footprint_7 : decode cX2_footprint 7 = .ok (.lconst 1, 1) := by decide +kernel
theorem dX2_footprint_8 : decode cX2_footprint 8 = .ok (.lsub, 1) := by decide +kernel
theorem dX2_footprint_9 : decode cX2_footprint 9 = .ok (.lstore 4, 2) := by decide +kernel
theorem dX2_footprint_11 : decode cX2_footprint 11 = .ok (.iload_n 0, 1) := by decide +kernel
theorem dX2_footprint_12 : decode cX2_footprint 12 = .ok (.iload_n 1, 1) := by decide +kernel
theorem dX2_footprint_13 : decode cX2_footprint 13 = .ok (.invokestatic 57, 3) := by decide +kernel
theorem dX2_footprint_16 : decode cX2_footprint 16 = .ok (.istore 6, 2) := by decide +kernel
theorem dX2_footprint_18 : decode cX2_footprint 18 = .ok (.lconst 0, 1) := by decide +kernel
theorem dX2_footprint_19 : decode cX2_footprint 19 = .ok (.lstore 7, 2) := by decide +kernel
theorem dX2_footprint_21 : decode cX2_footprint 21 = .ok (.iconst 0, 1) := by decide +kernel
theorem dX2_footprint_22 : decode cX2_footprint 22 = .ok (.istore 9, 2) := by decide +kernel
theorem dX2_footprint_24 : decode cX2_footprint 24 = .ok (.iload 9, 2) := by decide +kernel
theorem dX2_footprint_26 : decode cX2_footprint 26 = .ok (.iload 6, 2) := by decide +kernel
theorem dX2_footprint_28 : decode cX2_footprint 28 = .ok (.if_icmp .ge 26, 3) := by decide +kernel
theorem dX2_footprint_31 : decode cX2_footprint 31 = .ok (.lload 7, 2) := by decide +kernel
theorem dX2_footprint_33 : decode cX2_footprint 33 = .ok (.lload 4, 2) := by decide +kernel
theorem dX2_footprint_35 : decode cX2_footprint 35 = .ok (.iload_n 3, 1) := by decide +kernel
theorem dX2_footprint_36 : decode cX2_footprint 36 = .ok (.iload 9, 2) := by decide +kernel
theorem dX2_footprint_38 : decode cX2_footprint 38 = .ok (.iadd, 1) := by decide +kernel
theorem dX2_footprint_39 : decode cX2_footprint 39 = .ok (.bipush 6, 2) := by decide +kernel
theorem dX2_footprint_41 : decode cX2_footprint 41 = .ok (.imul, 1) := by decide +kernel
theorem dX2_footprint_42 : decode cX2_footprint 42 = .ok (.iload_n 2, 1) := by decide +kernel
theorem dX2_footprint_43 : decode cX2_footprint 43 = .ok (.iadd, 1) := by decide +kernel
theorem dX2_footprint_44 : decode cX2_footprint 44 = .ok (.lshl, 1) := by decide +kernel
theorem dX2_footprint_45 : decode cX2_footprint 45 = .ok (.lor, 1) := by decide +kernel
theorem dX2_footprint_46 : decode cX2_footprint 46 = .ok (.lstore 7, 2) := by decide +kernel
theorem dX2_footprint_48 : decode cX2_footprint 48 = .ok (.iinc 9 1, 3) := by decide +kernel
theorem dX2_footprint_51 : decode cX2_footprint 51 = .ok (.goto (-27), 3) := by decide +kernel
theorem dX2_footprint_54 : decode cX2_footprint 54 = .ok (.lload 7, 2) := by decide +kernel
theorem dX2_footprint_56 : decode cX2_footprint 56 = .ok (.lreturn, 1) := by decide +kernel
theorem dX2_ever_0 : decode cX2_ever 0 = .ok (.aload_n 0, 1) := by decide +kernel
theorem dX2_ever_1 : decode cX2_ever 1 = .ok (.getfield 60, 3) := by decide +kernel
theorem dX2_ever_4 : decode cX2_ever 4 = .ok (.ireturn, 1) := by decide +kernel
theorem dX2_there_0 : decode cX2_there 0 = .ok (.aload_n 0, 1) := by decide +kernel
theorem dX2_there_1 : decode cX2_there 1 = .ok (.getfield 64, 3) := by decide +kernel
theorem dX2_there_4 : decode cX2_there 4 = .ok (.lreturn, 1) := by decide +kernel
theorem dX2_ground_0 : decode cX2_ground 0 = .ok (.aload_n 0, 1) := by decide +kernel
theorem dX2_ground_1 : decode cX2_ground 1 = .ok (.getfield 68, 3) := by decide +kernel
theorem dX2_ground_4 : decode cX2_ground 4 = .ok (.lreturn, 1) := by decide +kernel
theorem dX2_howMany_0 : decode cX2_howMany 0 = .ok (.aload_n 0, 1) := by decide +kernel
theorem dX2_howMany_1 : decode cX2_howMany 1 = .ok (.getfield 64, 3) := by decide +kernel
theorem dX2_howMany_4 : decode cX2_howMany 4 = .ok (.invokestatic 71, 3) := by decide +kernel
theorem dX2_howMany_7 : decode cX2_howMany 7 = .ok (.ireturn, 1) := by decide +kernel
theorem dX2_exists_0 : decode cX2_exists 0 = .ok (.iload_n 1, 1) := by decide +kernel
theorem dX2_exists_1 : decode cX2_exists 1 = .ok (.ifCond .lt 15, 3) := by decide +kernel
theorem dX2_exists_4 : decode cX2_exists 4 = .ok (.iload_n 1, 1) := by decide +kernel
theorem dX2_exists_5 : decode cX2_exists 5 = .ok (.aload_n 0, 1) := by decide +kernel
theorem dX2_exists_6 : decode cX2_exists 6 = .ok (.getfield 60, 3) := by decide +kernel
theorem dX2_exists_9 : decode cX2_exists 9 = .ok (.if_icmp .ge 7, 3) := by decide +kernel
theorem dX2_exists_12 : decode cX2_exists 12 = .ok (.iconst 1, 1) := by decide +kernel
theorem dX2_exists_13 : decode cX2_exists 13 = .ok (.goto 4, 3) := by decide +kernel
theorem dX2_exists_16 : decode cX2_exists 16 = .ok (.iconst 0, 1) := by decide +kernel
theorem dX2_exists_17 : decode cX2_exists 17 = .ok (.ireturn, 1) := by decide +kernel
theorem dX2_isThere_0 : decode cX2_isThere 0 = .ok (.aload_n 0, 1) := by decide +kernel
theorem dX2_isThere_1 : decode cX2_isThere 1 = .ok (.iload_n 1, 1) := by decide +kernel
theorem dX2_isThere_2 : decode cX2_isThere 2 = .ok (.invokevirtual 77, 3) := by decide +kernel
theorem dX2_isThere_5 : decode cX2_isThere 5 = .ok (.ifCond .eq 20, 3) := by decide +kernel
theorem dX2_isThere_8 : decode cX2_isThere 8 = .ok (.aload_n 0, 1) := by decide +kernel
theorem dX2_isThere_9 : decode cX2_isThere 9 = .ok (.getfield 64, 3) := by decide +kernel
theorem dX2_isThere_12 : decode cX2_isThere 12 = .ok (.iload_n 1, 1) := by decide +kernel
theorem dX2_isThere_13 : decode cX2_isThere 13 = .ok (.lushr, 1) := by decide +kernel
theorem dX2_isThere_14 : decode cX2_isThere 14 = .ok (.lconst 1, 1) := by decide +kernel
theorem dX2_isThere_15 : decode cX2_isThere 15 = .ok (.land, 1) := by decide +kernel
theorem dX2_isThere_16 : decode cX2_isThere 16 = .ok (.lconst 1, 1) := by decide +kernel
theorem dX2_isThere_17 : decode cX2_isThere 17 = .ok (.lcmp, 1) := by decide +kernel
theorem dX2_isThere_18 : decode cX2_isThere 18 = .ok (.ifCond .ne 7, 3) := by decide +kernel
theorem dX2_isThere_21 : decode cX2_isThere 21 = .ok (.iconst 1, 1) := by decide +kernel
theorem dX2_isThere_22 : decode cX2_isThere 22 = .ok (.goto 4, 3) := by decide +kernel
theorem dX2_isThere_25 : decode cX2_isThere 25 = .ok (.iconst 0, 1) := by decide +kernel
theorem dX2_isThere_26 : decode cX2_isThere 26 = .ok (.ireturn, 1) := by decide +kernel
theorem dX2_overlapsAny_0 : decode cX2_overlapsAny 0 = .ok (.iload_n 3, 1) := by decide +kernel
theorem dX2_overlapsAny_1 : decode cX2_overlapsAny 1 = .ok (.ifCond .lt 25, 3) := by decide +kernel
theorem dX2_overlapsAny_4 : decode cX2_overlapsAny 4 = .ok (.iload_n 3, 1) := by decide +kernel
theorem dX2_overlapsAny_5 : decode cX2_overlapsAny 5 = .ok (.iconst 5, 1) := by decide +kernel
theorem dX2_overlapsAny_6 : decode cX2_overlapsAny 6 = .ok (.if_icmp .ge 20, 3) := by decide +kernel
theorem dX2_overlapsAny_9 : decode cX2_overlapsAny 9 = .ok (.aload_n 0, 1) := by decide +kernel
theorem dX2_overlapsAny_10 : decode cX2_overlapsAny 10 = .ok (.getfield 37, 3) := by decide +kernel
theorem dX2_overlapsAny_13 : decode cX2_overlapsAny 13 = .ok (.iload_n 3, 1) := by decide +kernel
theorem dX2_overlapsAny_14 : decode cX2_overlapsAny 14 = .ok (.laload, 1) := by decide +kernel
theorem dX2_overlapsAny_15 : decode cX2_overlapsAny 15 = .ok (.lload_n 1, 1) := by decide +kernel
theorem dX2_overlapsAny_16 : decode cX2_overlapsAny 16 = .ok (.land, 1) := by decide +kernel
theorem dX2_overlapsAny_17 : decode cX2_overlapsAny 17 = .ok (.lconst 0, 1) := by decide +kernel
theorem dX2_overlapsAny_18 : decode cX2_overlapsAny 18 = .ok (.lcmp, 1) := by decide +kernel
theorem dX2_overlapsAny_19 : decode cX2_overlapsAny 19 = .ok (.ifCond .eq 7, 3) := by decide +kernel
theorem dX2_overlapsAny_22 : decode cX2_overlapsAny 22 = .ok (.iconst 1, 1) := by decide +kernel
theorem dX2_overlapsAny_23 : decode cX2_overlapsAny 23 = .ok (.goto 4, 3) := by decide +kernel
theorem dX2_overlapsAny_26 : decode cX2_overlapsAny 26 = .ok (.iconst 0, 1) := by decide +kernel
theorem dX2_overlapsAny_27 : decode cX2_overlapsAny 27 = .ok (.ireturn, 1) := by decide +kernel
theorem dX2_add_0 : decode cX2_add 0 = .ok (.aload_n 0, 1) := by decide +kernel
theorem dX2_add_1 : decode cX2_add 1 = .ok (.getfield 60, 3) := by decide +kernel
theorem dX2_add_4 : decode cX2_add 4 = .ok (.istore 7, 2) := by decide +kernel
theorem dX2_add_6 : decode cX2_add 6 = .ok (.iload 7, 2) := by decide +kernel
theorem dX2_add_8 : decode cX2_add 8 = .ok (.bipush 40, 2) := by decide +kernel
theorem dX2_add_10 : decode cX2_add 10 = .ok (.if_icmp .ge 14, 3) := by decide +kernel
theorem dX2_add_13 : decode cX2_add 13 = .ok (.iload_n 3, 1) := by decide +kernel
theorem dX2_add_14 : decode cX2_add 14 = .ok (.iload 4, 2) := by decide +kernel
theorem dX2_add_16 : decode cX2_add 16 = .ok (.iload 5, 2) := by decide +kernel
theorem dX2_add_18 : decode cX2_add 18 = .ok (.invokestatic 80, 3) := by decide +kernel
theorem dX2_add_21 : decode cX2_add 21 = .ok (.ifCond .ne 5, 3) := by decide +kernel
theorem dX2_add_24 : decode cX2_add 24 = .ok (.iconst (-1), 1) := by decide +kernel
theorem dX2_add_25 : decode cX2_add 25 = .ok (.ireturn, 1) := by decide +kernel
theorem dX2_add_26 : decode cX2_add 26 = .ok (.aload_n 0, 1) := by decide +kernel
theorem dX2_add_27 : decode cX2_add 27 = .ok (.getfield 9, 3) := by decide +kernel
theorem dX2_add_30 : decode cX2_add 30 = .ok (.iload 7, 2) := by decide +kernel
theorem dX2_add_32 : decode cX2_add 32 = .ok (.iload_n 1, 1) := by decide +kernel
theorem dX2_add_33 : decode cX2_add 33 = .ok (.iastore, 1) := by decide +kernel
theorem dX2_add_34 : decode cX2_add 34 = .ok (.aload_n 0, 1) := by decide +kernel
theorem dX2_add_35 : decode cX2_add 35 = .ok (.getfield 15, 3) := by decide +kernel
theorem dX2_add_38 : decode cX2_add 38 = .ok (.iload 7, 2) := by decide +kernel
theorem dX2_add_40 : decode cX2_add 40 = .ok (.iload_n 2, 1) := by decide +kernel
theorem dX2_add_41 : decode cX2_add 41 = .ok (.iastore, 1) := by decide +kernel
theorem dX2_add_42 : decode cX2_add 42 = .ok (.aload_n 0, 1) := by decide +kernel
theorem dX2_add_43 : decode cX2_add 43 = .ok (.getfield 18, 3) := by decide +kernel
theorem dX2_add_46 : decode cX2_add 46 = .ok (.iload 7, 2) := by decide +kernel
theorem dX2_add_48 : decode cX2_add 48 = .ok (.iload_n 3, 1) := by decide +kernel
theorem dX2_add_49 : decode cX2_add 49 = .ok (.iastore, 1) := by decide +kernel
theorem dX2_add_50 : decode cX2_add 50 = .ok (.aload_n 0, 1) := by decide +kernel
theorem dX2_add_51 : decode cX2_add 51 = .ok (.getfield 21, 3) := by decide +kernel
theorem dX2_add_54 : decode cX2_add 54 = .ok (.iload 7, 2) := by decide +kernel
theorem dX2_add_56 : decode cX2_add 56 = .ok (.iload 4, 2) := by decide +kernel
theorem dX2_add_58 : decode cX2_add 58 = .ok (.iastore, 1) := by decide +kernel
theorem dX2_add_59 : decode cX2_add 59 = .ok (.aload_n 0, 1) := by decide +kernel
theorem dX2_add_60 : decode cX2_add 60 = .ok (.getfield 24, 3) := by decide +kernel
theorem dX2_add_63 : decode cX2_add 63 = .ok (.iload 7, 2) := by decide +kernel
theorem dX2_add_65 : decode cX2_add 65 = .ok (.iload 5, 2) := by decide +kernel
theorem dX2_add_67 : decode cX2_add 67 = .ok (.iastore, 1) := by decide +kernel
theorem dX2_add_68 : decode cX2_add 68 = .ok (.aload_n 0, 1) := by decide +kernel
theorem dX2_add_69 : decode cX2_add 69 = .ok (.getfield 27, 3) := by decide +kernel
theorem dX2_add_72 : decode cX2_add 72 = .ok (.iload 7, 2) := by decide +kernel
theorem dX2_add_74 : decode cX2_add 74 = .ok (.iload 6, 2) := by decide +kernel
theorem dX2_add_76 : decode cX2_add 76 = .ok (.iastore, 1) := by decide +kernel
theorem dX2_add_77 : decode cX2_add 77 = .ok (.aload_n 0, 1) := by decide +kernel
theorem dX2_add_78 : decode cX2_add 78 = .ok (.getfield 30, 3) := by decide +kernel
theorem dX2_add_81 : decode cX2_add 81 = .ok (.iload 7, 2) := by decide +kernel
theorem dX2_add_83 : decode cX2_add 83 = .ok (.iload_n 1, 1) := by decide +kernel
theorem dX2_add_84 : decode cX2_add 84 = .ok (.iload_n 2, 1) := by decide +kernel
theorem dX2_add_85 : decode cX2_add 85 = .ok (.iload_n 3, 1) := by decide +kernel
theorem dX2_add_86 : decode cX2_add 86 = .ok (.iload 4, 2) := by decide +kernel
theorem dX2_add_88 : decode cX2_add 88 = .ok (.invokestatic 84, 3) := by decide +kernel
theorem dX2_add_91 : decode cX2_add 91 = .ok (.lastore, 1) := by decide +kernel
theorem dX2_add_92 : decode cX2_add 92 = .ok (.aload_n 0, 1) := by decide +kernel
theorem dX2_add_93 : decode cX2_add 93 = .ok (.dup, 1) := by decide +kernel
theorem dX2_add_94 : decode cX2_add 94 = .ok (.getfield 60, 3) := by decide +kernel
theorem dX2_add_97 : decode cX2_add 97 = .ok (.iconst 1, 1) := by decide +kernel
theorem dX2_add_98 : decode cX2_add 98 = .ok (.iadd, 1) := by decide +kernel
theorem dX2_add_99 : decode cX2_add 99 = .ok (.putfield 60, 3) := by decide +kernel
theorem dX2_add_102 : decode cX2_add 102 = .ok (.aload_n 0, 1) := by decide +kernel
theorem dX2_add_103 : decode cX2_add 103 = .ok (.dup, 1) := by decide +kernel
theorem dX2_add_104 : decode cX2_add 104 = .ok (.getfield 64, 3) := by decide +kernel
theorem dX2_add_107 : decode cX2_add 107 = .ok (.lconst 1, 1) := by decide +kernel
theorem dX2_add_108 : decode cX2_add 108 = .ok (.iload 7, 2) := by decide +kernel
theorem dX2_add_110 : decode cX2_add 110 = .ok (.lshl, 1) := by decide +kernel
theorem dX2_add_111 : decode cX2_add 111 = .ok (.lor, 1) := by decide +kernel
theorem dX2_add_112 : decode cX2_add 112 = .ok (.putfield 64, 3) := by decide +kernel
theorem dX2_add_115 : decode cX2_add 115 = .ok (.iload 5, 2) := by decide +kernel
theorem dX2_add_117 : decode cX2_add 117 = .ok (.ifCond .ne 16, 3) := by decide +kernel
theorem dX2_add_120 : decode cX2_add 120 = .ok (.aload_n 0, 1) := by decide +kernel
theorem dX2_add_121 : decode cX2_add 121 = .ok (.dup, 1) := by decide +kernel
theorem dX2_add_122 : decode cX2_add 122 = .ok (.getfield 68, 3) := by decide +kernel
theorem dX2_add_125 : decode cX2_add 125 = .ok (.lconst 1, 1) := by decide +kernel
theorem dX2_add_126 : decode cX2_add 126 = .ok (.iload 7, 2) := by decide +kernel
theorem dX2_add_128 : decode cX2_add 128 = .ok (.lshl, 1) := by decide +kernel
theorem dX2_add_129 : decode cX2_add 129 = .ok (.lor, 1) := by decide +kernel
theorem dX2_add_130 : decode cX2_add 130 = .ok (.putfield 68, 3) := by decide +kernel
theorem dX2_add_133 : decode cX2_add 133 = .ok (.aload_n 0, 1) := by decide +kernel
theorem dX2_add_134 : decode cX2_add 134 = .ok (.getfield 37, 3) := by decide +kernel
theorem dX2_add_137 : decode cX2_add 137 = .ok (.iload 5, 2) := by decide +kernel
theorem dX2_add_139 : decode cX2_add 139 = .ok (.dup2, 1) := by decide +kernel
theorem dX2_add_140 : decode cX2_add 140 = .ok (.laload, 1) := by decide +kernel
theorem dX2_add_141 : decode cX2_add 141 = .ok (.aload_n 0, 1) := by decide +kernel
theorem dX2_add_142 : decode cX2_add 142 = .ok (.getfield 30, 3) := by decide +kernel
theorem dX2_add_145 : decode cX2_add 145 = .ok (.iload 7, 2) := by decide +kernel
theorem dX2_add_147 : decode cX2_add 147 = .ok (.laload, 1) := by decide +kernel
theorem dX2_add_148 : decode cX2_add 148 = .ok (.lor, 1) := by decide +kernel
theorem dX2_add_149 : decode cX2_add 149 = .ok (.lastore, 1) := by decide +kernel
theorem dX2_add_150 : decode cX2_add 150 = .ok (.aload_n 0, 1) := by decide +kernel
theorem dX2_add_151 : decode cX2_add 151 = .ok (.iload 7, 2) := by decide +kernel
theorem dX2_add_153 : decode cX2_add 153 = .ok (.iload 7, 2) := by decide +kernel
theorem dX2_add_155 : decode cX2_add 155 = .ok (.iconst 1, 1) := by decide +kernel
theorem dX2_add_156 : decode cX2_add 156 = .ok (.iadd, 1) := by decide +kernel
theorem dX2_add_157 : decode cX2_add 157 = .ok (.invokevirtual 88, 3) := by decide +kernel
theorem dX2_add_160 : decode cX2_add 160 = .ok (.aload_n 0, 1) := by decide +kernel
theorem dX2_add_161 : decode cX2_add 161 = .ok (.iload 7, 2) := by decide +kernel
theorem dX2_add_163 : decode cX2_add 163 = .ok (.invokevirtual 92, 3) := by decide +kernel
theorem dX2_add_166 : decode cX2_add 166 = .ok (.iload 7, 2) := by decide +kernel
theorem dX2_add_168 : decode cX2_add 168 = .ok (.ireturn, 1) := by decide +kernel
theorem dX2_remove_0 : decode cX2_remove 0 = .ok (.aload_n 0, 1) := by decide +kernel
theorem dX2_remove_1 : decode cX2_remove 1 = .ok (.iload_n 1, 1) := by decide +kernel
theorem dX2_remove_2 : decode cX2_remove 2 = .ok (.invokevirtual 96, 3) := by decide +kernel
theorem dX2_remove_5 : decode cX2_remove 5 = .ok (.ifCond .ne 4, 3) := by decide +kernel
theorem dX2_remove_8 : decode cX2_remove 8 = .ok (.return_, 1) := by decide +kernel
theorem dX2_remove_9 : decode cX2_remove 9 = .ok (.aload_n 0, 1) := by decide +kernel
theorem dX2_remove_10 : decode cX2_remove 10 = .ok (.dup, 1) := by decide +kernel
theorem dX2_remove_11 : decode cX2_remove 11 = .ok (.getfield 64, 3) := by decide +kernel
theorem dX2_remove_14 : decode cX2_remove 14 = .ok (.lconst 1, 1) := by decide +kernel
theorem dX2_remove_15 : decode cX2_remove 15 = .ok (.iload_n 1, 1) := by decide +kernel
theorem dX2_remove_16 : decode cX2_remove 16 = .ok (.lshl, 1) := by decide +kernel
theorem dX2_remove_17 : decode cX2_remove 17 = .ok (.ldc2_w 99, 3) := by decide +kernel
theorem dX2_remove_20 : decode cX2_remove 20 = .ok (.lxor, 1) := by decide +kernel
theorem dX2_remove_21 : decode cX2_remove 21 = .ok (.land, 1) := by decide +kernel
theorem dX2_remove_22 : decode cX2_remove 22 = .ok (.putfield 64, 3) := by decide +kernel
theorem dX2_remove_25 : decode cX2_remove 25 = .ok (.aload_n 0, 1) := by decide +kernel
theorem dX2_remove_26 : decode cX2_remove 26 = .ok (.dup, 1) := by decide +kernel
theorem dX2_remove_27 : decode cX2_remove 27 = .ok (.getfield 68, 3) := by decide +kernel
theorem dX2_remove_30 : decode cX2_remove 30 = .ok (.aload_n 0, 1) := by decide +kernel
theorem dX2_remove_31 : decode cX2_remove 31 = .ok (.getfield 64, 3) := by decide +kernel
theorem dX2_remove_34 : decode cX2_remove 34 = .ok (.land, 1) := by decide +kernel
theorem dX2_remove_35 : decode cX2_remove 35 = .ok (.putfield 68, 3) := by decide +kernel
theorem dX2_remove_38 : decode cX2_remove 38 = .ok (.aload_n 0, 1) := by decide +kernel
theorem dX2_remove_39 : decode cX2_remove 39 = .ok (.getfield 37, 3) := by decide +kernel
theorem dX2_remove_42 : decode cX2_remove 42 = .ok (.aload_n 0, 1) := by decide +kernel
theorem dX2_remove_43 : decode cX2_remove 43 = .ok (.getfield 24, 3) := by decide +kernel
theorem dX2_remove_46 : decode cX2_remove 46 = .ok (.iload_n 1, 1) := by decide +kernel
theorem dX2_remove_47 : decode cX2_remove 47 = .ok (.iaload, 1) := by decide +kernel
theorem dX2_remove_48 : decode cX2_remove 48 = .ok (.dup2, 1) := by decide +kernel
theorem dX2_remove_49 : decode cX2_remove 49 = .ok (.laload, 1) := by decide +kernel
theorem dX2_remove_50 : decode cX2_remove 50 = .ok (.aload_n 0, 1) := by decide +kernel
theorem dX2_remove_51 : decode cX2_remove 51 = .ok (.getfield 30, 3) := by decide +kernel
theorem dX2_remove_54 : decode cX2_remove 54 = .ok (.iload_n 1, 1) := by decide +kernel
theorem dX2_remove_55 : decode cX2_remove 55 = .ok (.laload, 1) := by decide +kernel
theorem dX2_remove_56 : decode cX2_remove 56 = .ok (.ldc2_w 99, 3) := by decide +kernel
theorem dX2_remove_59 : decode cX2_remove 59 = .ok (.lxor, 1) := by decide +kernel
theorem dX2_remove_60 : decode cX2_remove 60 = .ok (.land, 1) := by decide +kernel
theorem dX2_remove_61 : decode cX2_remove 61 = .ok (.lastore, 1) := by decide +kernel
theorem dX2_remove_62 : decode cX2_remove 62 = .ok (.aload_n 0, 1) := by decide +kernel
theorem dX2_remove_63 : decode cX2_remove 63 = .ok (.iload_n 1, 1) := by decide +kernel
theorem dX2_remove_64 : decode cX2_remove 64 = .ok (.iconst 0, 1) := by decide +kernel
theorem dX2_remove_65 : decode cX2_remove 65 = .ok (.invokevirtual 88, 3) := by decide +kernel
theorem dX2_remove_68 : decode cX2_remove 68 = .ok (.return_, 1) := by decide +kernel
theorem dX2_writeNumbers_0 : decode cX2_writeNumbers 0 = .ok (.aload_n 0, 1) := by decide +kernel
theorem dX2_writeNumbers_1 : decode cX2_writeNumbers 1 = .ok (.getfield 9, 3) := by decide +kernel
theorem dX2_writeNumbers_4 : decode cX2_writeNumbers 4 = .ok (.iload_n 1, 1) := by decide +kernel
theorem dX2_writeNumbers_5 : decode cX2_writeNumbers 5 = .ok (.iaload, 1) := by decide +kernel
theorem dX2_writeNumbers_6 : decode cX2_writeNumbers 6 = .ok (.aload_n 0, 1) := by decide +kernel
theorem dX2_writeNumbers_7 : decode cX2_writeNumbers 7 = .ok (.getfield 15, 3) := by decide +kernel
theorem dX2_writeNumbers_10 : decode cX2_writeNumbers 10 = .ok (.iload_n 1, 1) := by decide +kernel
theorem dX2_writeNumbers_11 : decode cX2_writeNumbers 11 = .ok (.iaload, 1) := by decide +kernel
theorem dX2_writeNumbers_12 : decode cX2_writeNumbers 12 = .ok (.invokestatic 53, 3) := by decide +kernel
theorem dX2_writeNumbers_15 : decode cX2_writeNumbers 15 = .ok (.istore_n 3, 1) := by decide +kernel
theorem dX2_writeNumbers_16 : decode cX2_writeNumbers 16 = .ok (.aload_n 0, 1) := by decide +kernel
theorem dX2_writeNumbers_17 : decode cX2_writeNumbers 17 = .ok (.getfield 9, 3) := by decide +kernel
theorem dX2_writeNumbers_20 : decode cX2_writeNumbers 20 = .ok (.iload_n 1, 1) := by decide +kernel
theorem dX2_writeNumbers_21 : decode cX2_writeNumbers 21 = .ok (.iaload, 1) := by decide +kernel
theorem dX2_writeNumbers_22 : decode cX2_writeNumbers 22 = .ok (.aload_n 0, 1) := by decide +kernel
theorem dX2_writeNumbers_23 : decode cX2_writeNumbers 23 = .ok (.getfield 15, 3) := by decide +kernel
theorem dX2_writeNumbers_26 : decode cX2_writeNumbers 26 = .ok (.iload_n 1, 1) := by decide +kernel
theorem dX2_writeNumbers_27 : decode cX2_writeNumbers 27 = .ok (.iaload, 1) := by decide +kernel
theorem dX2_writeNumbers_28 : decode cX2_writeNumbers 28 = .ok (.invokestatic 57, 3) := by decide +kernel
theorem dX2_writeNumbers_31 : decode cX2_writeNumbers 31 = .ok (.istore 4, 2) := by decide +kernel
theorem dX2_writeNumbers_33 : decode cX2_writeNumbers 33 = .ok (.iconst 0, 1) := by decide +kernel
theorem dX2_writeNumbers_34 : decode cX2_writeNumbers 34 = .ok (.istore 5, 2) := by decide +kernel
theorem dX2_writeNumbers_36 : decode cX2_writeNumbers 36 = .ok (.iload 5, 2) := by decide +kernel
theorem dX2_writeNumbers_38 : decode cX2_writeNumbers 38 = .ok (.iload 4, 2) := by decide +kernel
theorem dX2_writeNumbers_40 : decode cX2_writeNumbers 40 = .ok (.if_icmp .ge 74, 3) := by decide +kernel
theorem dX2_writeNumbers_43 : decode cX2_writeNumbers 43 = .ok (.iconst 0, 1) := by decide +kernel
theorem dX2_writeNumbers_44 : decode cX2_writeNumbers 44 = .ok (.istore 6, 2) := by decide +kernel
theorem dX2_writeNumbers_46 : decode cX2_writeNumbers 46 = .ok (.iload 6, 2) := by decide +kernel
theorem dX2_writeNumbers_48 : decode cX2_writeNumbers 48 = .ok (.iload_n 3, 1) := by decide +kernel
theorem dX2_writeNumbers_49 : decode cX2_writeNumbers 49 = .ok (.if_icmp .ge 59, 3) := by decide +kernel
theorem dX2_writeNumbers_52 : decode cX2_writeNumbers 52 = .ok (.aload_n 0, 1) := by decide +kernel
theorem dX2_writeNumbers_53 : decode cX2_writeNumbers 53 = .ok (.getfield 18, 3) := by decide +kernel
theorem dX2_writeNumbers_56 : decode cX2_writeNumbers 56 = .ok (.iload_n 1, 1) := by decide +kernel
theorem dX2_writeNumbers_57 : decode cX2_writeNumbers 57 = .ok (.iaload, 1) := by decide +kernel
theorem dX2_writeNumbers_58 : decode cX2_writeNumbers 58 = .ok (.iload 6, 2) := by decide +kernel
theorem dX2_writeNumbers_60 : decode cX2_writeNumbers 60 = .ok (.iadd, 1) := by decide +kernel
theorem dX2_writeNumbers_61 : decode cX2_writeNumbers 61 = .ok (.aload_n 0, 1) := by decide +kernel
theorem dX2_writeNumbers_62 : decode cX2_writeNumbers 62 = .ok (.getfield 21, 3) := by decide +kernel
theorem dX2_writeNumbers_65 : decode cX2_writeNumbers 65 = .ok (.iload_n 1, 1) := by decide +kernel
theorem dX2_writeNumbers_66 : decode cX2_writeNumbers 66 = .ok (.iaload, 1) := by decide +kernel
theorem dX2_writeNumbers_67 : decode cX2_writeNumbers 67 = .ok (.iload 5, 2) := by decide +kernel
theorem dX2_writeNumbers_69 : decode cX2_writeNumbers 69 = .ok (.iadd, 1) := by decide +kernel
theorem dX2_writeNumbers_70 : decode cX2_writeNumbers 70 = .ok (.aload_n 0, 1) := by decide +kernel
theorem dX2_writeNumbers_71 : decode cX2_writeNumbers 71 = .ok (.getfield 24, 3) := by decide +kernel
theorem dX2_writeNumbers_74 : decode cX2_writeNumbers 74 = .ok (.iload_n 1, 1) := by decide +kernel
theorem dX2_writeNumbers_75 : decode cX2_writeNumbers 75 = .ok (.iaload, 1) := by decide +kernel
theorem dX2_writeNumbers_76 : decode cX2_writeNumbers 76 = .ok (.invokestatic 101, 3) := by decide +kernel
theorem dX2_writeNumbers_79 : decode cX2_writeNumbers 79 = .ok (.istore 7, 2) := by decide +kernel
theorem dX2_writeNumbers_81 : decode cX2_writeNumbers 81 = .ok (.iload 7, 2) := by decide +kernel
theorem dX2_writeNumbers_83 : decode cX2_writeNumbers 83 = .ok (.ifCond .lt 19, 3) := by decide +kernel
theorem dX2_writeNumbers_86 : decode cX2_writeNumbers 86 = .ok (.iload 7, 2) := by decide +kernel
theorem dX2_writeNumbers_88 : decode cX2_writeNumbers 88 = .ok (.sipush 180, 3) := by decide +kernel
theorem dX2_writeNumbers_91 : decode cX2_writeNumbers 91 = .ok (.if_icmp .ge 11, 3) := by decide +kernel
theorem dX2_writeNumbers_94 : decode cX2_writeNumbers 94 = .ok (.aload_n 0, 1) := by decide +kernel
theorem dX2_writeNumbers_95 : decode cX2_writeNumbers 95 = .ok (.getfield 40, 3) := by decide +kernel
theorem dX2_writeNumbers_98 : decode cX2_writeNumbers 98 = .ok (.iload 7, 2) := by decide +kernel
theorem dX2_writeNumbers_100 : decode cX2_writeNumbers 100 = .ok (.iload_n 2, 1) := by decide +kernel
theorem dX2_writeNumbers_101 : decode cX2_writeNumbers 101 = .ok (.iastore, 1) := by decide +kernel
theorem dX2_writeNumbers_102 : decode cX2_writeNumbers 102 = .ok (.iinc 6 1, 3) := by decide +kernel
theorem dX2_writeNumbers_105 : decode cX2_writeNumbers 105 = .ok (.goto (-59), 3) := by decide +kernel
theorem dX2_writeNumbers_108 : decode cX2_writeNumbers 108 = .ok (.iinc 5 1, 3) := by decide +kernel
theorem dX2_writeNumbers_111 : decode cX2_writeNumbers 111 = .ok (.goto (-75), 3) := by decide +kernel
theorem dX2_writeNumbers_114 : decode cX2_writeNumbers 114 = .ok (.return_, 1) := by decide +kernel
theorem dX2_join_0 : decode cX2_join 0 = .ok (.iconst 0, 1) := by decide +kernel
theorem dX2_join_1 : decode cX2_join 1 = .ok (.istore_n 2, 1) := by decide +kernel
theorem dX2_join_2 : decode cX2_join 2 = .ok (.iload_n 2, 1) := by decide +kernel
theorem dX2_join_3 : decode cX2_join 3 = .ok (.iload_n 1, 1) := by decide +kernel
theorem dX2_join_4 : decode cX2_join 4 = .ok (.if_icmp .ge 42, 3) := by decide +kernel
theorem dX2_join_7 : decode cX2_join 7 = .ok (.aload_n 0, 1) := by decide +kernel
theorem dX2_join_8 : decode cX2_join 8 = .ok (.iload_n 1, 1) := by decide +kernel
theorem dX2_join_9 : decode cX2_join 9 = .ok (.iload_n 2, 1) := by decide +kernel
theorem dX2_join_10 : decode cX2_join 10 = .ok (.invokevirtual 105, 3) := by decide +kernel
theorem dX2_join_13 : decode cX2_join 13 = .ok (.ifCond .le 27, 3) := by decide +kernel
theorem dX2_join_16 : decode cX2_join 16 = .ok (.aload_n 0, 1) := by decide +kernel
theorem dX2_join_17 : decode cX2_join 17 = .ok (.getfield 34, 3) := by decide +kernel
theorem dX2_join_20 : decode cX2_join 20 = .ok (.iload_n 1, 1) := by decide +kernel
theorem dX2_join_21 : decode cX2_join 21 = .ok (.dup2, 1) := by decide +kernel
theorem dX2_join_22 : decode cX2_join 22 = .ok (.laload, 1) := by decide +kernel
theorem dX2_join_23 : decode cX2_join 23 = .ok (.lconst 1, 1) := by decide +kernel
theorem dX2_join_24 : decode cX2_join 24 = .ok (.iload_n 2, 1) := by decide +kernel
theorem dX2_join_25 : decode cX2_join 25 = .ok (.lshl, 1) := by decide +kernel
theorem dX2_join_26 : decode cX2_join 26 = .ok (.lor, 1) := by decide +kernel
theorem dX2_join_27 : decode cX2_join 27 = .ok (.lastore, 1) := by decide +kernel
theorem dX2_join_28 : decode cX2_join 28 = .ok (.aload_n 0, 1) := by decide +kernel
theorem dX2_join_29 : decode cX2_join 29 = .ok (.getfield 34, 3) := by decide +kernel
theorem dX2_join_32 : decode cX2_join 32 = .ok (.iload_n 2, 1) := by decide +kernel
theorem dX2_join_33 : decode cX2_join 33 = .ok (.dup2, 1) := by decide +kernel
theorem dX2_join_34 : decode cX2_join 34 = .ok (.laload, 1) := by decide +kernel
theorem dX2_join_35 : decode cX2_join 35 = .ok (.lconst 1, 1) := by decide +kernel
theorem dX2_join_36 : decode cX2_join 36 = .ok (.iload_n 1, 1) := by decide +kernel
theorem dX2_join_37 : decode cX2_join 37 = .ok (.lshl, 1) := by decide +kernel
theorem dX2_join_38 : decode cX2_join 38 = .ok (.lor, 1) := by decide +kernel
theorem dX2_join_39 : decode cX2_join 39 = .ok (.lastore, 1) := by decide +kernel
theorem dX2_join_40 : decode cX2_join 40 = .ok (.iinc 2 1, 3) := by decide +kernel
theorem dX2_join_43 : decode cX2_join 43 = .ok (.goto (-41), 3) := by decide +kernel
theorem dX2_join_46 : decode cX2_join 46 = .ok (.return_, 1) := by decide +kernel
theorem dX2_sharedStuds_0 : decode cX2_sharedStuds 0 = .ok (.aload_n 0, 1) := by decide +kernel
theorem dX2_sharedStuds_1 : decode cX2_sharedStuds 1 = .ok (.iload_n 1, 1) := by decide +kernel
theorem dX2_sharedStuds_2 : decode cX2_sharedStuds 2 = .ok (.invokevirtual 77, 3) := by decide +kernel
theorem dX2_sharedStuds_5 : decode cX2_sharedStuds 5 = .ok (.ifCond .eq 31, 3) := by decide +kernel
theorem dX2_sharedStuds_8 : decode cX2_sharedStuds 8 = .ok (.aload_n 0, 1) := by decide +kernel
theorem dX2_sharedStuds_9 : decode cX2_sharedStuds 9 = .ok (.iload_n 2, 1) := by decide +kernel
theorem dX2_sharedStuds_10 : decode cX2_sharedStuds 10 = .ok (.invokevirtual 77, 3) := by decide +kernel
theorem dX2_sharedStuds_13 : decode cX2_sharedStuds 13 = .ok (.ifCond .eq 23, 3) := by decide +kernel
theorem dX2_sharedStuds_16 : decode cX2_sharedStuds 16 = .ok (.aload_n 0, 1) := by decide +kernel
theorem dX2_sharedStuds_17 : decode cX2_sharedStuds 17 = .ok (.getfield 24, 3) := by decide +kernel
theorem dX2_sharedStuds_20 : decode cX2_sharedStuds 20 = .ok (.iload_n 1, 1) := by decide +kernel
theorem dX2_sharedStuds_21 : decode cX2_sharedStuds 21 = .ok (.iaload, 1) := by decide +kernel
theorem dX2_sharedStuds_22 : decode cX2_sharedStuds 22 = .ok (.aload_n 0, 1) := by decide +kernel
theorem dX2_sharedStuds_23 : decode cX2_sharedStuds 23 = .ok (.getfield 24, 3) := by decide +kernel
theorem dX2_sharedStuds_26 : decode cX2_sharedStuds 26 = .ok (.iload_n 2, 1) := by decide +kernel
theorem dX2_sharedStuds_27 : decode cX2_sharedStuds 27 = .ok (.iaload, 1) := by decide +kernel
theorem dX2_sharedStuds_28 : decode cX2_sharedStuds 28 = .ok (.isub, 1) := by decide +kernel
theorem dX2_sharedStuds_29 : decode cX2_sharedStuds 29 = .ok (.invokestatic 108, 3) := by decide +kernel
theorem dX2_sharedStuds_32 : decode cX2_sharedStuds 32 = .ok (.iconst 1, 1) := by decide +kernel
theorem dX2_sharedStuds_33 : decode cX2_sharedStuds 33 = .ok (.if_icmp .eq 5, 3) := by decide +kernel
theorem dX2_sharedStuds_36 : decode cX2_sharedStuds 36 = .ok (.iconst 0, 1) := by decide +kernel
theorem dX2_sharedStuds_37 : decode cX2_sharedStuds 37 = .ok (.ireturn, 1) := by decide +kernel
theorem dX2_sharedStuds_38 : decode cX2_sharedStuds 38 = .ok (.aload_n 0, 1) := by decide +kernel
theorem dX2_sharedStuds_39 : decode cX2_sharedStuds 39 = .ok (.getfield 30, 3) := by decide +kernel
theorem dX2_sharedStuds_42 : decode cX2_sharedStuds 42 = .ok (.iload_n 1, 1) := by decide +kernel
theorem dX2_sharedStuds_43 : decode cX2_sharedStuds 43 = .ok (.laload, 1) := by decide +kernel
theorem dX2_sharedStuds_44 : decode cX2_sharedStuds 44 = .ok (.aload_n 0, 1) := by decide +kernel
theorem dX2_sharedStuds_45 : decode cX2_sharedStuds 45 = .ok (.getfield 30, 3) := by decide +kernel
theorem dX2_sharedStuds_48 : decode cX2_sharedStuds 48 = .ok (.iload_n 2, 1) := by decide +kernel
theorem dX2_sharedStuds_49 : decode cX2_sharedStuds 49 = .ok (.laload, 1) := by decide +kernel
theorem dX2_sharedStuds_50 : decode cX2_sharedStuds 50 = .ok (.land, 1) := by decide +kernel
theorem dX2_sharedStuds_51 : decode cX2_sharedStuds 51 = .ok (.invokestatic 71, 3) := by decide +kernel
theorem dX2_sharedStuds_54 : decode cX2_sharedStuds 54 = .ok (.ireturn, 1) := by decide +kernel
theorem dX2_neighboursOf_0 : decode cX2_neighboursOf 0 = .ok (.aload_n 0, 1) := by decide +kernel
theorem dX2_neighboursOf_1 : decode cX2_neighboursOf 1 = .ok (.iload_n 1, 1) := by decide +kernel
theorem dX2_neighboursOf_2 : decode cX2_neighboursOf 2 = .ok (.invokevirtual 77, 3) := by decide +kernel
theorem dX2_neighboursOf_5 : decode cX2_neighboursOf 5 = .ok (.ifCond .eq 12, 3) := by decide +kernel
theorem dX2_neighboursOf_8 : decode cX2_neighboursOf 8 = .ok (.aload_n 0, 1) := by decide +kernel
theorem dX2_neighboursOf_9 : decode cX2_neighboursOf 9 = .ok (.getfield 34, 3) := by decide +kernel
theorem dX2_neighboursOf_12 : decode cX2_neighboursOf 12 = .ok (.iload_n 1, 1) := by decide +kernel
theorem dX2_neighboursOf_13 : decode cX2_neighboursOf 13 = .ok (.laload, 1) := by decide +kernel
theorem dX2_neighboursOf_14 : decode cX2_neighboursOf 14 = .ok (.goto 4, 3) := by decide +kernel
theorem dX2_neighboursOf_17 : decode cX2_neighboursOf 17 = .ok (.lconst 0, 1) := by decide +kernel
theorem dX2_neighboursOf_18 : decode cX2_neighboursOf 18 = .ok (.lreturn, 1) := by decide +kernel
theorem dX2_sizeOf_0 : decode cX2_sizeOf 0 = .ok (.aload_n 0, 1) := by decide +kernel
theorem dX2_sizeOf_1 : decode cX2_sizeOf 1 = .ok (.iload_n 1, 1) := by decide +kernel
theorem dX2_sizeOf_2 : decode cX2_sizeOf 2 = .ok (.invokevirtual 77, 3) := by decide +kernel
theorem dX2_sizeOf_5 : decode cX2_sizeOf 5 = .ok (.ifCond .eq 15, 3) := by decide +kernel
theorem dX2_sizeOf_8 : decode cX2_sizeOf 8 = .ok (.aload_n 0, 1) := by decide +kernel
theorem dX2_sizeOf_9 : decode cX2_sizeOf 9 = .ok (.getfield 30, 3) := by decide +kernel
theorem dX2_sizeOf_12 : decode cX2_sizeOf 12 = .ok (.iload_n 1, 1) := by decide +kernel
theorem dX2_sizeOf_13 : decode cX2_sizeOf 13 = .ok (.laload, 1) := by decide +kernel
theorem dX2_sizeOf_14 : decode cX2_sizeOf 14 = .ok (.invokestatic 71, 3) := by decide +kernel
theorem dX2_sizeOf_17 : decode cX2_sizeOf 17 = .ok (.goto 4, 3) := by decide +kernel
theorem dX2_sizeOf_20 : decode cX2_sizeOf 20 = .ok (.iconst 0, 1) := by decide +kernel
theorem dX2_sizeOf_21 : decode cX2_sizeOf 21 = .ok (.ireturn, 1) := by decide +kernel
theorem dX2_colourOf_0 : decode cX2_colourOf 0 = .ok (.aload_n 0, 1) := by decide +kernel
theorem dX2_colourOf_1 : decode cX2_colourOf 1 = .ok (.iload_n 1, 1) := by decide +kernel
theorem dX2_colourOf_2 : decode cX2_colourOf 2 = .ok (.invokevirtual 77, 3) := by decide +kernel
theorem dX2_colourOf_5 : decode cX2_colourOf 5 = .ok (.ifCond .eq 12, 3) := by decide +kernel
theorem dX2_colourOf_8 : decode cX2_colourOf 8 = .ok (.aload_n 0, 1) := by decide +kernel
theorem dX2_colourOf_9 : decode cX2_colourOf 9 = .ok (.getfield 27, 3) := by decide +kernel
theorem dX2_colourOf_12 : decode cX2_colourOf 12 = .ok (.iload_n 1, 1) := by decide +kernel
theorem dX2_colourOf_13 : decode cX2_colourOf 13 = .ok (.iaload, 1) := by decide +kernel
theorem dX2_colourOf_14 : decode cX2_colourOf 14 = .ok (.goto 4, 3) := by decide +kernel
theorem dX2_colourOf_17 : decode cX2_colourOf 17 = .ok (.iconst 0, 1) := by decide +kernel
theorem dX2_colourOf_18 : decode cX2_colourOf 18 = .ok (.ireturn, 1) := by decide +kernel
theorem dX2_coveringFromAbove_0 : decode cX2_coveringFromAbove 0 = .ok (.lconst 0, 1) := by decide +kernel
theorem dX2_coveringFromAbove_1 : decode cX2_coveringFromAbove 1 = .ok (.lstore 4, 2) := by decide +kernel
theorem dX2_coveringFromAbove_3 : decode cX2_coveringFromAbove 3 = .ok (.iconst 0, 1) := by decide +kernel
theorem dX2_coveringFromAbove_4 : decode cX2_coveringFromAbove 4 = .ok (.istore 6, 2) := by decide +kernel
theorem dX2_coveringFromAbove_6 : decode cX2_coveringFromAbove 6 = .ok (.iload 6, 2) := by decide +kernel
theorem dX2_coveringFromAbove_8 : decode cX2_coveringFromAbove 8 = .ok (.aload_n 0, 1) := by decide +kernel
theorem dX2_coveringFromAbove_9 : decode cX2_coveringFromAbove 9 = .ok (.getfield 60, 3) := by decide +kernel
theorem dX2_coveringFromAbove_12 : decode cX2_coveringFromAbove 12 = .ok (.if_icmp .ge 72, 3) := by decide +kernel
theorem dX2_coveringFromAbove_15 : decode cX2_coveringFromAbove 15 = .ok (.aload_n 0, 1) := by decide +kernel
theorem dX2_coveringFromAbove_16 : decode cX2_coveringFromAbove 16 = .ok (.iload_n 1, 1) := by decide +kernel
theorem dX2_coveringFromAbove_17 : decode cX2_coveringFromAbove 17 = .ok (.invokevirtual 77, 3) := by decide +kernel
theorem dX2_coveringFromAbove_20 : decode cX2_coveringFromAbove 20 = .ok (.ifCond .eq 58, 3) := by decide +kernel
theorem dX2_coveringFromAbove_23 : decode cX2_coveringFromAbove 23 = .ok (.lload_n 2, 1) := by decide +kernel
theorem dX2_coveringFromAbove_24 : decode cX2_coveringFromAbove 24 = .ok (.iload 6, 2) := by decide +kernel
theorem dX2_coveringFromAbove_26 : decode cX2_coveringFromAbove 26 = .ok (.lushr, 1) := by decide +kernel
theorem dX2_coveringFromAbove_27 : decode cX2_coveringFromAbove 27 = .ok (.lconst 1, 1) := by decide +kernel
theorem dX2_coveringFromAbove_28 : decode cX2_coveringFromAbove 28 = .ok (.land, 1) := by decide +kernel
theorem dX2_coveringFromAbove_29 : decode cX2_coveringFromAbove 29 = .ok (.lconst 1, 1) := by decide +kernel
theorem dX2_coveringFromAbove_30 : decode cX2_coveringFromAbove 30 = .ok (.lcmp, 1) := by decide +kernel
theorem dX2_coveringFromAbove_31 : decode cX2_coveringFromAbove 31 = .ok (.ifCond .ne 47, 3) := by decide +kernel
theorem dX2_coveringFromAbove_34 : decode cX2_coveringFromAbove 34 = .ok (.aload_n 0, 1) := by decide +kernel
theorem dX2_coveringFromAbove_35 : decode cX2_coveringFromAbove 35 = .ok (.getfield 24, 3) := by decide +kernel
theorem dX2_coveringFromAbove_38 : decode cX2_coveringFromAbove 38 = .ok (.iload 6, 2) := by decide +kernel
theorem dX2_coveringFromAbove_40 : decode cX2_coveringFromAbove 40 = .ok (.iaload, 1) := by decide +kernel
theorem dX2_coveringFromAbove_41 : decode cX2_coveringFromAbove 41 = .ok (.aload_n 0, 1) := by decide +kernel
theorem dX2_coveringFromAbove_42 : decode cX2_coveringFromAbove 42 = .ok (.getfield 24, 3) := by decide +kernel
theorem dX2_coveringFromAbove_45 : decode cX2_coveringFromAbove 45 = .ok (.iload_n 1, 1) := by decide +kernel
theorem dX2_coveringFromAbove_46 : decode cX2_coveringFromAbove 46 = .ok (.iaload, 1) := by decide +kernel
theorem dX2_coveringFromAbove_47 : decode cX2_coveringFromAbove 47 = .ok (.if_icmp .le 31, 3) := by decide +kernel
theorem dX2_coveringFromAbove_50 : decode cX2_coveringFromAbove 50 = .ok (.aload_n 0, 1) := by decide +kernel
theorem dX2_coveringFromAbove_51 : decode cX2_coveringFromAbove 51 = .ok (.getfield 30, 3) := by decide +kernel
theorem dX2_coveringFromAbove_54 : decode cX2_coveringFromAbove 54 = .ok (.iload 6, 2) := by decide +kernel
theorem dX2_coveringFromAbove_56 : decode cX2_coveringFromAbove 56 = .ok (.laload, 1) := by decide +kernel
theorem dX2_coveringFromAbove_57 : decode cX2_coveringFromAbove 57 = .ok (.aload_n 0, 1) := by decide +kernel
theorem dX2_coveringFromAbove_58 : decode cX2_coveringFromAbove 58 = .ok (.getfield 30, 3) := by decide +kernel
theorem dX2_coveringFromAbove_61 : decode cX2_coveringFromAbove 61 = .ok (.iload_n 1, 1) := by decide +kernel
theorem dX2_coveringFromAbove_62 : decode cX2_coveringFromAbove 62 = .ok (.laload, 1) := by decide +kernel
theorem dX2_coveringFromAbove_63 : decode cX2_coveringFromAbove 63 = .ok (.land, 1) := by decide +kernel
theorem dX2_coveringFromAbove_64 : decode cX2_coveringFromAbove 64 = .ok (.lconst 0, 1) := by decide +kernel
theorem dX2_coveringFromAbove_65 : decode cX2_coveringFromAbove 65 = .ok (.lcmp, 1) := by decide +kernel
theorem dX2_coveringFromAbove_66 : decode cX2_coveringFromAbove 66 = .ok (.ifCond .eq 12, 3) := by decide +kernel
theorem dX2_coveringFromAbove_69 : decode cX2_coveringFromAbove 69 = .ok (.lload 4, 2) := by decide +kernel
theorem dX2_coveringFromAbove_71 : decode cX2_coveringFromAbove 71 = .ok (.lconst 1, 1) := by decide +kernel
theorem dX2_coveringFromAbove_72 : decode cX2_coveringFromAbove 72 = .ok (.iload 6, 2) := by decide +kernel
theorem dX2_coveringFromAbove_74 : decode cX2_coveringFromAbove 74 = .ok (.lshl, 1) := by decide +kernel
theorem dX2_coveringFromAbove_75 : decode cX2_coveringFromAbove 75 = .ok (.lor, 1) := by decide +kernel
theorem dX2_coveringFromAbove_76 : decode cX2_coveringFromAbove 76 = .ok (.lstore 4, 2) := by decide +kernel
theorem dX2_coveringFromAbove_78 : decode cX2_coveringFromAbove 78 = .ok (.iinc 6 1, 3) := by decide +kernel
theorem dX2_coveringFromAbove_81 : decode cX2_coveringFromAbove 81 = .ok (.goto (-75), 3) := by decide +kernel
theorem dX2_coveringFromAbove_84 : decode cX2_coveringFromAbove 84 = .ok (.lload 4, 2) := by decide +kernel
theorem dX2_coveringFromAbove_86 : decode cX2_coveringFromAbove 86 = .ok (.lreturn, 1) := by decide +kernel
theorem dX2_told_0 : decode cX2_told 0 = .ok (.aload_n 0, 1) := by decide +kernel
theorem dX2_told_1 : decode cX2_told 1 = .ok (.iload_n 1, 1) := by decide +kernel
theorem dX2_told_2 : decode cX2_told 2 = .ok (.invokevirtual 77, 3) := by decide +kernel
theorem dX2_told_5 : decode cX2_told 5 = .ok (.ifCond .ne 5, 3) := by decide +kernel
theorem dX2_told_8 : decode cX2_told 8 = .ok (.iconst 0, 1) := by decide +kernel
theorem dX2_told_9 : decode cX2_told 9 = .ok (.ireturn, 1) := by decide +kernel
theorem dX2_told_10 : decode cX2_told 10 = .ok (.iload_n 2, 1) := by decide +kernel
theorem dX2_told_11 : decode cX2_told 11 = .ok (.tableswitch 79 0 5 #[37, 44, 51, 58, 65, 72], 37) := by decide +kernel
theorem dX2_told_48 : decode cX2_told 48 = .ok (.aload_n 0, 1) := by decide +kernel
theorem dX2_told_49 : decode cX2_told 49 = .ok (.getfield 9, 3) := by decide +kernel
theorem dX2_told_52 : decode cX2_told 52 = .ok (.iload_n 1, 1) := by decide +kernel
theorem dX2_told_53 : decode cX2_told 53 = .ok (.iaload, 1) := by decide +kernel
theorem dX2_told_54 : decode cX2_told 54 = .ok (.ireturn, 1) := by decide +kernel
theorem dX2_told_55 : decode cX2_told 55 = .ok (.aload_n 0, 1) := by decide +kernel
theorem dX2_told_56 : decode cX2_told 56 = .ok (.getfield 15, 3) := by decide +kernel
theorem dX2_told_59 : decode cX2_told 59 = .ok (.iload_n 1, 1) := by decide +kernel
theorem dX2_told_60 : decode cX2_told 60 = .ok (.iaload, 1) := by decide +kernel
theorem dX2_told_61 : decode cX2_told 61 = .ok (.ireturn, 1) := by decide +kernel
theorem dX2_told_62 : decode cX2_told 62 = .ok (.aload_n 0, 1) := by decide +kernel
theorem dX2_told_63 : decode cX2_told 63 = .ok (.getfield 18, 3) := by decide +kernel
theorem dX2_told_66 : decode cX2_told 66 = .ok (.iload_n 1, 1) := by decide +kernel
theorem dX2_told_67 : decode cX2_told 67 = .ok (.iaload, 1) := by decide +kernel
theorem dX2_told_68 : decode cX2_told 68 = .ok (.ireturn, 1) := by decide +kernel
theorem dX2_told_69 : decode cX2_told 69 = .ok (.aload_n 0, 1) := by decide +kernel
theorem dX2_told_70 : decode cX2_told 70 = .ok (.getfield 21, 3) := by decide +kernel
theorem dX2_told_73 : decode cX2_told 73 = .ok (.iload_n 1, 1) := by decide +kernel
theorem dX2_told_74 : decode cX2_told 74 = .ok (.iaload, 1) := by decide +kernel
theorem dX2_told_75 : decode cX2_told 75 = .ok (.ireturn, 1) := by decide +kernel
theorem dX2_told_76 : decode cX2_told 76 = .ok (.aload_n 0, 1) := by decide +kernel
theorem dX2_told_77 : decode cX2_told 77 = .ok (.getfield 24, 3) := by decide +kernel
theorem dX2_told_80 : decode cX2_told 80 = .ok (.iload_n 1, 1) := by decide +kernel
theorem dX2_told_81 : decode cX2_told 81 = .ok (.iaload, 1) := by decide +kernel
theorem dX2_told_82 : decode cX2_told 82 = .ok (.ireturn, 1) := by decide +kernel
theorem dX2_told_83 : decode cX2_told 83 = .ok (.aload_n 0, 1) := by decide +kernel
theorem dX2_told_84 : decode cX2_told 84 = .ok (.getfield 27, 3) := by decide +kernel
theorem dX2_told_87 : decode cX2_told 87 = .ok (.iload_n 1, 1) := by decide +kernel
theorem dX2_told_88 : decode cX2_told 88 = .ok (.iaload, 1) := by decide +kernel
theorem dX2_told_89 : decode cX2_told 89 = .ok (.ireturn, 1) := by decide +kernel
theorem dX2_told_90 : decode cX2_told 90 = .ok (.aload_n 0, 1) := by decide +kernel
theorem dX2_told_91 : decode cX2_told 91 = .ok (.iload_n 1, 1) := by decide +kernel
theorem dX2_told_92 : decode cX2_told 92 = .ok (.invokevirtual 96, 3) := by decide +kernel
theorem dX2_told_95 : decode cX2_told 95 = .ok (.ifCond .eq 7, 3) := by decide +kernel
theorem dX2_told_98 : decode cX2_told 98 = .ok (.iconst 0, 1) := by decide +kernel
theorem dX2_told_99 : decode cX2_told 99 = .ok (.goto 4, 3) := by decide +kernel
theorem dX2_told_102 : decode cX2_told 102 = .ok (.iconst 1, 1) := by decide +kernel
theorem dX2_told_103 : decode cX2_told 103 = .ok (.ireturn, 1) := by decide +kernel
theorem dX2_brickAt_0 : decode cX2_brickAt 0 = .ok (.iload_n 1, 1) := by decide +kernel
theorem dX2_brickAt_1 : decode cX2_brickAt 1 = .ok (.iload_n 2, 1) := by decide +kernel
theorem dX2_brickAt_2 : decode cX2_brickAt 2 = .ok (.iload_n 3, 1) := by decide +kernel
theorem dX2_brickAt_3 : decode cX2_brickAt 3 = .ok (.invokestatic 80, 3) := by decide +kernel
theorem dX2_brickAt_6 : decode cX2_brickAt 6 = .ok (.ifCond .eq 19, 3) := by decide +kernel
theorem dX2_brickAt_9 : decode cX2_brickAt 9 = .ok (.aload_n 0, 1) := by decide +kernel
theorem dX2_brickAt_10 : decode cX2_brickAt 10 = .ok (.getfield 40, 3) := by decide +kernel
theorem dX2_brickAt_13 : decode cX2_brickAt 13 = .ok (.iload_n 1, 1) := by decide +kernel
theorem dX2_brickAt_14 : decode cX2_brickAt 14 = .ok (.iload_n 2, 1) := by decide +kernel
theorem dX2_brickAt_15 : decode cX2_brickAt 15 = .ok (.iload_n 3, 1) := by decide +kernel
theorem dX2_brickAt_16 : decode cX2_brickAt 16 = .ok (.invokestatic 101, 3) := by decide +kernel
theorem dX2_brickAt_19 : decode cX2_brickAt 19 = .ok (.iaload, 1) := by decide +kernel
theorem dX2_brickAt_20 : decode cX2_brickAt 20 = .ok (.iconst 1, 1) := by decide +kernel
theorem dX2_brickAt_21 : decode cX2_brickAt 21 = .ok (.isub, 1) := by decide +kernel
theorem dX2_brickAt_22 : decode cX2_brickAt 22 = .ok (.goto 4, 3) := by decide +kernel
theorem dX2_brickAt_25 : decode cX2_brickAt 25 = .ok (.iconst (-1), 1) := by decide +kernel
theorem dX2_brickAt_26 : decode cX2_brickAt 26 = .ok (.ireturn, 1) := by decide +kernel
theorem dX2_isSeamRight_0 : decode cX2_isSeamRight 0 = .ok (.aload_n 0, 1) := by decide +kernel
theorem dX2_isSeamRight_1 : decode cX2_isSeamRight 1 = .ok (.iload_n 1, 1) := by decide +kernel
theorem dX2_isSeamRight_2 : decode cX2_isSeamRight 2 = .ok (.iload_n 2, 1) := by decide +kernel
theorem dX2_isSeamRight_3 : decode cX2_isSeamRight 3 = .ok (.iload_n 3, 1) := by decide +kernel
theorem dX2_isSeamRight_4 : decode cX2_isSeamRight 4 = .ok (.invokevirtual 114, 3) := by decide +kernel
theorem dX2_isSeamRight_7 : decode cX2_isSeamRight 7 = .ok (.aload_n 0, 1) := by decide +kernel
theorem dX2_isSeamRight_8 : decode cX2_isSeamRight 8 = .ok (.iload_n 1, 1) := by decide +kernel
theorem dX2_isSeamRight_9 : decode cX2_isSeamRight 9 = .ok (.iconst 1, 1) := by decide +kernel
theorem dX2_isSeamRight_10 : decode cX2_isSeamRight 10 = .ok (.iadd, 1) := by decide +kernel
theorem dX2_isSeamRight_11 : decode cX2_isSeamRight 11 = .ok (.iload_n 2, 1) := by decide +kernel
theorem dX2_isSeamRight_12 : decode cX2_isSeamRight 12 = .ok (.iload_n 3, 1) := by decide +kernel
theorem dX2_isSeamRight_13 : decode cX2_isSeamRight 13 = .ok (.invokevirtual 114, 3) := by decide +kernel
theorem dX2_isSeamRight_16 : decode cX2_isSeamRight 16 = .ok (.invokestatic 117, 3) := by decide +kernel
theorem dX2_isSeamRight_19 : decode cX2_isSeamRight 19 = .ok (.ireturn, 1) := by decide +kernel
theorem dX2_isSeamBehind_0 : decode cX2_isSeamBehind 0 = .ok (.aload_n 0, 1) := by decide +kernel
theorem dX2_isSeamBehind_1 : decode cX2_isSeamBehind 1 = .ok (.iload_n 1, 1) := by decide +kernel
theorem dX2_isSeamBehind_2 : decode cX2_isSeamBehind 2 = .ok (.iload_n 2, 1) := by decide +kernel
theorem dX2_isSeamBehind_3 : decode cX2_isSeamBehind 3 = .ok (.iload_n 3, 1) := by decide +kernel
theorem dX2_isSeamBehind_4 : decode cX2_isSeamBehind 4 = .ok (.invokevirtual 114, 3) := by decide +kernel
theorem dX2_isSeamBehind_7 : decode cX2_isSeamBehind 7 = .ok (.aload_n 0, 1) := by decide +kernel
theorem dX2_isSeamBehind_8 : decode cX2_isSeamBehind 8 = .ok (.iload_n 1, 1) := by decide +kernel
theorem dX2_isSeamBehind_9 : decode cX2_isSeamBehind 9 = .ok (.iload_n 2, 1) := by decide +kernel
theorem dX2_isSeamBehind_10 : decode cX2_isSeamBehind 10 = .ok (.iconst 1, 1) := by decide +kernel
theorem dX2_isSeamBehind_11 : decode cX2_isSeamBehind 11 = .ok (.iadd, 1) := by decide +kernel
theorem dX2_isSeamBehind_12 : decode cX2_isSeamBehind 12 = .ok (.iload_n 3, 1) := by decide +kernel
theorem dX2_isSeamBehind_13 : decode cX2_isSeamBehind 13 = .ok (.invokevirtual 114, 3) := by decide +kernel
theorem dX2_isSeamBehind_16 : decode cX2_isSeamBehind 16 = .ok (.invokestatic 117, 3) := by decide +kernel
theorem dX2_isSeamBehind_19 : decode cX2_isSeamBehind 19 = .ok (.ireturn, 1) := by decide +kernel
theorem dX2_areTwo_0 : decode cX2_areTwo 0 = .ok (.iload_n 0, 1) := by decide +kernel
theorem dX2_areTwo_1 : decode cX2_areTwo 1 = .ok (.iconst (-1), 1) := by decide +kernel
theorem dX2_areTwo_2 : decode cX2_areTwo 2 = .ok (.if_icmp .eq 17, 3) := by decide +kernel
theorem dX2_areTwo_5 : decode cX2_areTwo 5 = .ok (.iload_n 1, 1) := by decide +kernel
theorem dX2_areTwo_6 : decode cX2_areTwo 6 = .ok (.iconst (-1), 1) := by decide +kernel
theorem dX2_areTwo_7 : decode cX2_areTwo 7 = .ok (.if_icmp .eq 12, 3) := by decide +kernel
theorem dX2_areTwo_10 : decode cX2_areTwo 10 = .ok (.iload_n 0, 1) := by decide +kernel
theorem dX2_areTwo_11 : decode cX2_areTwo 11 = .ok (.iload_n 1, 1) := by decide +kernel
theorem dX2_areTwo_12 : decode cX2_areTwo 12 = .ok (.if_icmp .eq 7, 3) := by decide +kernel
theorem dX2_areTwo_15 : decode cX2_areTwo 15 = .ok (.iconst 1, 1) := by decide +kernel
theorem dX2_areTwo_16 : decode cX2_areTwo 16 = .ok (.goto 4, 3) := by decide +kernel
theorem dX2_areTwo_19 : decode cX2_areTwo 19 = .ok (.iconst 0, 1) := by decide +kernel
theorem dX2_areTwo_20 : decode cX2_areTwo 20 = .ok (.ireturn, 1) := by decide +kernel
theorem dX2_countSeams_0 : decode cX2_countSeams 0 = .ok (.iconst 0, 1) := by decide +kernel
theorem dX2_countSeams_1 : decode cX2_countSeams 1 = .ok (.istore_n 2, 1) := by decide +kernel
theorem dX2_countSeams_2 : decode cX2_countSeams 2 = .ok (.iload_n 1, 1) := by decide +kernel
theorem dX2_countSeams_3 : decode cX2_countSeams 3 = .ok (.ifCond .eq 7, 3) := by decide +kernel
theorem dX2_countSeams_6 : decode cX2_countSeams 6 = .ok (.iconst 1, 1) := by decide +kernel
theorem dX2_countSeams_7 : decode cX2_countSeams 7 = .ok (.goto 4, 3) := by decide +kernel
theorem dX2_countSeams_10 : decode cX2_countSeams 10 = .ok (.iconst 0, 1) := by decide +kernel
theorem dX2_countSeams_11 : decode cX2_countSeams 11 = .ok (.istore_n 3, 1) := by decide +kernel
theorem dX2_countSeams_12 : decode cX2_countSeams 12 = .ok (.iload_n 3, 1) := by decide +kernel
theorem dX2_countSeams_13 : decode cX2_countSeams 13 = .ok (.iconst 5, 1) := by decide +kernel
theorem dX2_countSeams_14 : decode cX2_countSeams 14 = .ok (.if_icmp .ge 107, 3) := by decide +kernel
theorem dX2_countSeams_17 : decode cX2_countSeams 17 = .ok (.iconst 0, 1) := by decide +kernel
theorem dX2_countSeams_18 : decode cX2_countSeams 18 = .ok (.istore 4, 2) := by decide +kernel
theorem dX2_countSeams_20 : decode cX2_countSeams 20 = .ok (.iload 4, 2) := by decide +kernel
theorem dX2_countSeams_22 : decode cX2_countSeams 22 = .ok (.bipush 6, 2) := by decide +kernel
theorem dX2_countSeams_24 : decode cX2_countSeams 24 = .ok (.if_icmp .ge 91, 3) := by decide +kernel
theorem dX2_countSeams_27 : decode cX2_countSeams 27 = .ok (.iconst 0, 1) := by decide +kernel
theorem dX2_countSeams_28 : decode cX2_countSeams 28 = .ok (.istore 5, 2) := by decide +kernel
theorem dX2_countSeams_30 : decode cX2_countSeams 30 = .ok (.iload 5, 2) := by decide +kernel
theorem dX2_countSeams_32 : decode cX2_countSeams 32 = .ok (.bipush 6, 2) := by decide +kernel
theorem dX2_countSeams_34 : decode cX2_countSeams 34 = .ok (.if_icmp .ge 75, 3) := by decide +kernel
theorem dX2_countSeams_37 : decode cX2_countSeams 37 = .ok (.aload_n 0, 1) := by decide +kernel
theorem dX2_countSeams_38 : decode cX2_countSeams 38 = .ok (.iload 5, 2) := by decide +kernel
theorem dX2_countSeams_40 : decode cX2_countSeams 40 = .ok (.iload 4, 2) := by decide +kernel
theorem dX2_countSeams_42 : decode cX2_countSeams 42 = .ok (.iload_n 3, 1) := by decide +kernel
theorem dX2_countSeams_43 : decode cX2_countSeams 43 = .ok (.invokevirtual 121, 3) := by decide +kernel
theorem dX2_countSeams_46 : decode cX2_countSeams 46 = .ok (.ifCond .eq 24, 3) := by decide +kernel
theorem dX2_countSeams_49 : decode cX2_countSeams 49 = .ok (.iload_n 1, 1) := by decide +kernel
theorem dX2_countSeams_50 : decode cX2_countSeams 50 = .ok (.ifCond .eq 17, 3) := by decide +kernel
theorem dX2_countSeams_53 : decode cX2_countSeams 53 = .ok (.aload_n 0, 1) := by decide +kernel
theorem dX2_countSeams_54 : decode cX2_countSeams 54 = .ok (.iload 5, 2) := by decide +kernel
theorem dX2_countSeams_56 : decode cX2_countSeams 56 = .ok (.iload 4, 2) := by decide +kernel
theorem dX2_countSeams_58 : decode cX2_countSeams 58 = .ok (.iload_n 3, 1) := by decide +kernel
theorem dX2_countSeams_59 : decode cX2_countSeams 59 = .ok (.iconst 1, 1) := by decide +kernel
theorem dX2_countSeams_60 : decode cX2_countSeams 60 = .ok (.isub, 1) := by decide +kernel
theorem dX2_countSeams_61 : decode cX2_countSeams 61 = .ok (.invokevirtual 121, 3) := by decide +kernel
theorem dX2_countSeams_64 : decode cX2_countSeams 64 = .ok (.ifCond .eq 6, 3) := by decide +kernel
theorem dX2_countSeams_67 : decode cX2_countSeams 67 = .ok (.iinc 2 1, 3) := by decide +kernel
theorem dX2_countSeams_70 : decode cX2_countSeams 70 = .ok (.aload_n 0, 1) := by decide +kernel
theorem dX2_countSeams_71 : decode cX2_countSeams 71 = .ok (.iload 5, 2) := by decide +kernel
theorem dX2_countSeams_73 : decode cX2_countSeams 73 = .ok (.iload 4, 2) := by decide +kernel
theorem dX2_countSeams_75 : decode cX2_countSeams 75 = .ok (.iload_n 3, 1) := by decide +kernel
theorem dX2_countSeams_76 : decode cX2_countSeams 76 = .ok (.invokevirtual 124, 3) := by decide +kernel
theorem dX2_countSeams_79 : decode cX2_countSeams 79 = .ok (.ifCond .eq 24, 3) := by decide +kernel
theorem dX2_countSeams_82 : decode cX2_countSeams 82 = .ok (.iload_n 1, 1) := by decide +kernel
theorem dX2_countSeams_83 : decode cX2_countSeams 83 = .ok (.ifCond .eq 17, 3) := by decide +kernel
theorem dX2_countSeams_86 : decode cX2_countSeams 86 = .ok (.aload_n 0, 1) := by decide +kernel
theorem dX2_countSeams_87 : decode cX2_countSeams 87 = .ok (.iload 5, 2) := by decide +kernel
theorem dX2_countSeams_89 : decode cX2_countSeams 89 = .ok (.iload 4, 2) := by decide +kernel
theorem dX2_countSeams_91 : decode cX2_countSeams 91 = .ok (.iload_n 3, 1) := by decide +kernel
theorem dX2_countSeams_92 : decode cX2_countSeams 92 = .ok (.iconst 1, 1) := by decide +kernel
theorem dX2_countSeams_93 : decode cX2_countSeams 93 = .ok (.isub, 1) := by decide +kernel
theorem dX2_countSeams_94 : decode cX2_countSeams 94 = .ok (.invokevirtual 124, 3) := by decide +kernel
theorem dX2_countSeams_97 : decode cX2_countSeams 97 = .ok (.ifCond .eq 6, 3) := by decide +kernel
theorem dX2_countSeams_100 : decode cX2_countSeams 100 = .ok (.iinc 2 1, 3) := by decide +kernel
theorem dX2_countSeams_103 : decode cX2_countSeams 103 = .ok (.iinc 5 1, 3) := by decide +kernel
theorem dX2_countSeams_106 : decode cX2_countSeams 106 = .ok (.goto (-76), 3) := by decide +kernel
theorem dX2_countSeams_109 : decode cX2_countSeams 109 = .ok (.iinc 4 1, 3) := by decide +kernel
theorem dX2_countSeams_112 : decode cX2_countSeams 112 = .ok (.goto (-92), 3) := by decide +kernel
theorem dX2_countSeams_115 : decode cX2_countSeams 115 = .ok (.iinc 3 1, 3) := by decide +kernel
theorem dX2_countSeams_118 : decode cX2_countSeams 118 = .ok (.goto (-106), 3) := by decide +kernel
theorem dX2_countSeams_121 : decode cX2_countSeams 121 = .ok (.iload_n 2, 1) := by decide +kernel
theorem dX2_countSeams_122 : decode cX2_countSeams 122 = .ok (.ireturn, 1) := by decide +kernel
theorem dX2_colourSeen_0 : decode cX2_colourSeen 0 = .ok (.iload_n 1, 1) := by decide +kernel
theorem dX2_colourSeen_1 : decode cX2_colourSeen 1 = .ok (.iconst 4, 1) := by decide +kernel
theorem dX2_colourSeen_2 : decode cX2_colourSeen 2 = .ok (.if_icmp .ne 7, 3) := by decide +kernel
theorem dX2_colourSeen_5 : decode cX2_colourSeen 5 = .ok (.iconst 5, 1) := by decide +kernel
theorem dX2_colourSeen_6 : decode cX2_colourSeen 6 = .ok (.goto 5, 3) := by decide +kernel
theorem dX2_colourSeen_9 : decode cX2_colourSeen 9 = .ok (.bipush 6, 2) := by decide +kernel
theorem dX2_colourSeen_11 : decode cX2_colourSeen 11 = .ok (.istore 4, 2) := by decide +kernel
theorem dX2_colourSeen_13 : decode cX2_colourSeen 13 = .ok (.iconst 0, 1) := by decide +kernel
theorem dX2_colourSeen_14 : decode cX2_colourSeen 14 = .ok (.istore 5, 2) := by decide +kernel
theorem dX2_colourSeen_16 : decode cX2_colourSeen 16 = .ok (.iload 5, 2) := by decide +kernel
theorem dX2_colourSeen_18 : decode cX2_colourSeen 18 = .ok (.iload 4, 2) := by decide +kernel
theorem dX2_colourSeen_20 : decode cX2_colourSeen 20 = .ok (.if_icmp .ge 33, 3) := by decide +kernel
theorem dX2_colourSeen_23 : decode cX2_colourSeen 23 = .ok (.aload_n 0, 1) := by decide +kernel
theorem dX2_colourSeen_24 : decode cX2_colourSeen 24 = .ok (.iload_n 1, 1) := by decide +kernel
theorem dX2_colourSeen_25 : decode cX2_colourSeen 25 = .ok (.iload_n 2, 1) := by decide +kernel
theorem dX2_colourSeen_26 : decode cX2_colourSeen 26 = .ok (.iload_n 3, 1) := by decide +kernel
theorem dX2_colourSeen_27 : decode cX2_colourSeen 27 = .ok (.iload 5, 2) := by decide +kernel
theorem dX2_colourSeen_29 : decode cX2_colourSeen 29 = .ok (.invokevirtual 127, 3) := by decide +kernel
theorem dX2_colourSeen_32 : decode cX2_colourSeen 32 = .ok (.istore 6, 2) := by decide +kernel
theorem dX2_colourSeen_34 : decode cX2_colourSeen 34 = .ok (.iload 6, 2) := by decide +kernel
theorem dX2_colourSeen_36 : decode cX2_colourSeen 36 = .ok (.iconst (-1), 1) := by decide +kernel
theorem dX2_colourSeen_37 : decode cX2_colourSeen 37 = .ok (.if_icmp .eq 10, 3) := by decide +kernel
theorem dX2_colourSeen_40 : decode cX2_colourSeen 40 = .ok (.aload_n 0, 1) := by decide +kernel
theorem dX2_colourSeen_41 : decode cX2_colourSeen 41 = .ok (.iload 6, 2) := by decide +kernel
theorem dX2_colourSeen_43 : decode cX2_colourSeen 43 = .ok (.invokevirtual 131, 3) := by decide +kernel
theorem dX2_colourSeen_46 : decode cX2_colourSeen 46 = .ok (.ireturn, 1) := by decide +kernel
theorem dX2_colourSeen_47 : decode cX2_colourSeen 47 = .ok (.iinc 5 1, 3) := by decide +kernel
theorem dX2_colourSeen_50 : decode cX2_colourSeen 50 = .ok (.goto (-34), 3) := by decide +kernel
theorem dX2_colourSeen_53 : decode cX2_colourSeen 53 = .ok (.iconst 0, 1) := by decide +kernel
theorem dX2_colourSeen_54 : decode cX2_colourSeen 54 = .ok (.ireturn, 1) := by decide +kernel
theorem dX2_onLine_0 : decode cX2_onLine 0 = .ok (.iload_n 1, 1) := by decide +kernel
theorem dX2_onLine_1 : decode cX2_onLine 1 = .ok (.tableswitch 71 0 3 #[31, 40, 51, 62], 31) := by decide +kernel
theorem dX2_onLine_32 : decode cX2_onLine 32 = .ok (.aload_n 0, 1) := by decide +kernel
theorem dX2_onLine_33 : decode cX2_onLine 33 = .ok (.iload_n 2, 1) := by decide +kernel
theorem dX2_onLine_34 : decode cX2_onLine 34 = .ok (.iload 4, 2) := by decide +kernel
theorem dX2_onLine_36 : decode cX2_onLine 36 = .ok (.iload_n 3, 1) := by decide +kernel
theorem dX2_onLine_37 : decode cX2_onLine 37 = .ok (.invokevirtual 114, 3) := by decide +kernel
theorem dX2_onLine_40 : decode cX2_onLine 40 = .ok (.ireturn, 1) := by decide +kernel
theorem dX2_onLine_41 : decode cX2_onLine 41 = .ok (.aload_n 0, 1) := by decide +kernel
theorem dX2_onLine_42 : decode cX2_onLine 42 = .ok (.iconst 5, 1) := by decide +kernel
theorem dX2_onLine_43 : decode cX2_onLine 43 = .ok (.iload 4, 2) := by decide +kernel
theorem dX2_onLine_45 : decode cX2_onLine 45 = .ok (.isub, 1) := by decide +kernel
theorem dX2_onLine_46 : decode cX2_onLine 46 = .ok (.iload_n 2, 1) := by decide +kernel
theorem dX2_onLine_47 : decode cX2_onLine 47 = .ok (.iload_n 3, 1) := by decide +kernel
theorem dX2_onLine_48 : decode cX2_onLine 48 = .ok (.invokevirtual 114, 3) := by decide +kernel
theorem dX2_onLine_51 : decode cX2_onLine 51 = .ok (.ireturn, 1) := by decide +kernel
theorem dX2_onLine_52 : decode cX2_onLine 52 = .ok (.aload_n 0, 1) := by decide +kernel
theorem dX2_onLine_53 : decode cX2_onLine 53 = .ok (.iload_n 2, 1) := by decide +kernel
theorem dX2_onLine_54 : decode cX2_onLine 54 = .ok (.iconst 5, 1) := by decide +kernel
theorem dX2_onLine_55 : decode cX2_onLine 55 = .ok (.iload 4, 2) := by decide +kernel
theorem dX2_onLine_57 : decode cX2_onLine 57 = .ok (.isub, 1) := by decide +kernel
theorem dX2_onLine_58 : decode cX2_onLine 58 = .ok (.iload_n 3, 1) := by decide +kernel
theorem dX2_onLine_59 : decode cX2_onLine 59 = .ok (.invokevirtual 114, 3) := by decide +kernel
theorem dX2_onLine_62 : decode cX2_onLine 62 = .ok (.ireturn, 1) := by decide +kernel
theorem dX2_onLine_63 : decode cX2_onLine 63 = .ok (.aload_n 0, 1) := by decide +kernel
theorem dX2_onLine_64 : decode cX2_onLine 64 = .ok (.iload 4, 2) := by decide +kernel
theorem dX2_onLine_66 : decode cX2_onLine 66 = .ok (.iload_n 2, 1) := by decide +kernel
theorem dX2_onLine_67 : decode cX2_onLine 67 = .ok (.iload_n 3, 1) := by decide +kernel
theorem dX2_onLine_68 : decode cX2_onLine 68 = .ok (.invokevirtual 114, 3) := by decide +kernel
theorem dX2_onLine_71 : decode cX2_onLine 71 = .ok (.ireturn, 1) := by decide +kernel
theorem dX2_onLine_72 : decode cX2_onLine 72 = .ok (.aload_n 0, 1) := by decide +kernel
theorem dX2_onLine_73 : decode cX2_onLine 73 = .ok (.iload_n 2, 1) := by decide +kernel
theorem dX2_onLine_74 : decode cX2_onLine 74 = .ok (.iload_n 3, 1) := by decide +kernel
theorem dX2_onLine_75 : decode cX2_onLine 75 = .ok (.iconst 4, 1) := by decide +kernel
theorem dX2_onLine_76 : decode cX2_onLine 76 = .ok (.iload 4, 2) := by decide +kernel
theorem dX2_onLine_78 : decode cX2_onLine 78 = .ok (.isub, 1) := by decide +kernel
theorem dX2_onLine_79 : decode cX2_onLine 79 = .ok (.invokevirtual 114, 3) := by decide +kernel
theorem dX2_onLine_82 : decode cX2_onLine 82 = .ok (.ireturn, 1) := by decide +kernel
theorem dX3_init_0 : decode cX3_init 0 = .ok (.aload_n 0, 1) := by decide +kernel
theorem dX3_init_1 : decode cX3_init 1 = .ok (.invokespecial 3, 3) := by decide +kernel
theorem dX3_init_4 : decode cX3_init 4 = .ok (.aload_n 0, 1) := by decide +kernel
theorem dX3_init_5 : decode cX3_init 5 = .ok (.bipush 16, 2) := by decide +kernel
theorem dX3_init_7 : decode cX3_init 7 = .ok (.newarray .int, 2) := by decide +kernel
theorem dX3_init_9 : decode cX3_init 9 = .ok (.putfield 11, 3) := by decide +kernel
theorem dX3_init_12 : decode cX3_init 12 = .ok (.aload_n 0, 1) := by decide +kernel
theorem dX3_init_13 : decode cX3_init 13 = .ok (.bipush 36, 2) := by decide +kernel
theorem dX3_init_15 : decode cX3_init 15 = .ok (.newarray .int, 2) := by decide +kernel
theorem dX3_init_17 : decode cX3_init 17 = .ok (.putfield 15, 3) := by decide +kernel
theorem dX3_init_20 : decode cX3_init 20 = .ok (.aload_n 0, 1) := by decide +kernel
theorem dX3_init_21 : decode cX3_init 21 = .ok (.bipush 36, 2) := by decide +kernel
theorem dX3_init_23 : decode cX3_init 23 = .ok (.newarray .int, 2) := by decide +kernel
theorem dX3_init_25 : decode cX3_init 25 = .ok (.putfield 18, 3) := by decide +kernel
theorem dX3_init_28 : decode cX3_init 28 = .ok (.aload_n 0, 1) := by decide +kernel
theorem dX3_init_29 : decode cX3_init 29 = .ok (.bipush 36, 2) := by decide +kernel
theorem dX3_init_31 : decode cX3_init 31 = .ok (.newarray .int, 2) := by decide +kernel
theorem dX3_init_33 : decode cX3_init 33 = .ok (.putfield 21, 3) := by decide +kernel
theorem dX3_init_36 : decode cX3_init 36 = .ok (.aload_n 0, 1) := by decide +kernel
theorem dX3_init_37 : decode cX3_init 37 = .ok (.sipush 192, 3) := by decide +kernel
theorem dX3_init_40 : decode cX3_init 40 = .ok (.newarray .int, 2) := by decide +kernel
theorem dX3_init_42 : decode cX3_init 42 = .ok (.putfield 24, 3) := by decide +kernel
theorem dX3_init_45 : decode cX3_init 45 = .ok (.aload_n 0, 1) := by decide +kernel
theorem dX3_init_46 : decode cX3_init 46 = .ok (.sipush 192, 3) := by decide +kernel
theorem dX3_init_49 : decode cX3_init 49 = .ok (.newarray .int, 2) := by decide +kernel
theorem dX3_init_51 : decode cX3_init 51 = .ok (.putfield 27, 3) := by decide +kernel
theorem dX3_init_54 : decode cX3_init 54 = .ok (.aload_n 0, 1) := by decide +kernel
theorem dX3_init_55 : decode cX3_init 55 = .ok (.sipush 2048, 3) := by decide +kernel
theorem dX3_init_58 : decode cX3_init 58 = .ok (.newarray .int, 2) := by decide +kernel
theorem dX3_init_60 : decode cX3_init 60 = .ok (.putfield 30, 3) := by decide +kernel
theorem dX3_init_63 : decode cX3_init 63 = .ok (.aload_n 0, 1) := by decide +kernel
theorem dX3_init_64 : decode cX3_init 64 = .ok (.sipush 2048, 3) := by decide +kernel
theorem dX3_init_67 : decode cX3_init 67 = .ok (.newarray .int, 2) := by decide +kernel
theorem dX3_init_69 : decode cX3_init 69 = .ok (.putfield 33, 3) := by decide +kernel
theorem dX3_init_72 : decode cX3_init 72 = .ok (.aload_n 0, 1) := by decide +kernel
theorem dX3_init_73 : decode cX3_init 73 = .ok (.bipush 16, 2) := by decide +kernel
theorem dX3_init_75 : decode cX3_init 75 = .ok (.newarray .int, 2) := by decide +kernel
theorem dX3_init_77 : decode cX3_init 77 = .ok (.putfield 36, 3) := by decide +kernel
theorem dX3_init_80 : decode cX3_init 80 = .ok (.aload_n 0, 1) := by decide +kernel
theorem dX3_init_81 : decode cX3_init 81 = .ok (.aload_n 1, 1) := by decide +kernel
theorem dX3_init_82 : decode cX3_init 82 = .ok (.putfield 39, 3) := by decide +kernel
theorem dX3_init_85 : decode cX3_init 85 = .ok (.aload_n 0, 1) := by decide +kernel
theorem dX3_init_86 : decode cX3_init 86 = .ok (.aload_n 2, 1) := by decide +kernel
theorem dX3_init_87 : decode cX3_init 87 = .ok (.putfield 43, 3) := by decide +kernel
theorem dX3_init_90 : decode cX3_init 90 = .ok (.return_, 1) := by decide +kernel
theorem dX3_forget_0 : decode cX3_forget 0 = .ok (.aload_n 0, 1) := by decide +kernel
theorem dX3_forget_1 : decode cX3_forget 1 = .ok (.iconst 0, 1) := by decide +kernel
theorem dX3_forget_2 : decode cX3_forget 2 = .ok (.putfield 47, 3) := by decide +kernel
theorem dX3_forget_5 : decode cX3_forget 5 = .ok (.return_, 1) := by decide +kernel
theorem dX3_length_0 : decode cX3_length 0 = .ok (.aload_n 0, 1) := by decide +kernel
theorem dX3_length_1 : decode cX3_length 1 = .ok (.getfield 51, 3) := by decide +kernel
theorem dX3_length_4 : decode cX3_length 4 = .ok (.ireturn, 1) := by decide +kernel
theorem dX3_newSeams_0 : decode cX3_newSeams 0 = .ok (.aload_n 0, 1) := by decide +kernel
theorem dX3_newSeams_1 : decode cX3_newSeams 1 = .ok (.getfield 54, 3) := by decide +kernel
theorem dX3_newSeams_4 : decode cX3_newSeams 4 = .ok (.ireturn, 1) := by decide +kernel
theorem dX3_toldAt_0 : decode cX3_toldAt 0 = .ok (.iload_n 1, 1) := by decide +kernel
theorem dX3_toldAt_1 : decode cX3_toldAt 1 = .ok (.ifCond .lt 20, 3) := by decide +kernel
theorem dX3_toldAt_4 : decode cX3_toldAt 4 = .ok (.iload_n 1, 1) := by decide +kernel
theorem dX3_toldAt_5 : decode cX3_toldAt 5 = .ok (.aload_n 0, 1) := by decide +kernel
theorem dX3_toldAt_6 : decode cX3_toldAt 6 = .ok (.getfield 51, 3) := by decide +kernel
theorem dX3_toldAt_9 : decode cX3_toldAt 9 = .ok (.if_icmp .ge 12, 3) := by decide +kernel
theorem dX3_toldAt_12 : decode cX3_toldAt 12 = .ok (.aload_n 0, 1) := by decide +kernel
theorem dX3_toldAt_13 : decode cX3_toldAt 13 = .ok (.getfield 36, 3) := by decide +kernel
theorem dX3_toldAt_16 : decode cX3_toldAt 16 = .ok (.iload_n 1, 1) := by decide +kernel
theorem dX3_toldAt_17 : decode cX3_toldAt 17 = .ok (.iaload, 1) := by decide +kernel
theorem dX3_toldAt_18 : decode cX3_toldAt 18 = .ok (.goto 5, 3) := by decide +kernel
theorem dX3_toldAt_21 : decode cX3_toldAt 21 = .ok (.bipush (-9), 2) := by decide +kernel
theorem dX3_toldAt_23 : decode cX3_toldAt 23 = .ok (.ireturn, 1) := by decide +kernel
theorem dX3_findBest_0 : decode cX3_findBest 0 = .ok (.iload_n 1, 1) := by decide +kernel
theorem dX3_findBest_1 : decode cX3_findBest 1 = .ok (.aload_n 0, 1) := by decide +kernel
theorem dX3_findBest_2 : decode cX3_findBest 2 = .ok (.getfield 47, 3) := by decide +kernel
theorem dX3_findBest_5 : decode cX3_findBest 5 = .ok (.if_icmp .ne 11, 3) := by decide +kernel
theorem dX3_findBest_8 : decode cX3_findBest 8 = .ok (.iload_n 2, 1) := by decide +kernel
theorem dX3_findBest_9 : decode cX3_findBest 9 = .ok (.aload_n 0, 1) := by decide +kernel
theorem dX3_findBest_10 : decode cX3_findBest 10 = .ok (.getfield 57, 3) := by decide +kernel
theorem dX3_findBest_13 : decode cX3_findBest 13 = .ok (.if_icmp .eq 56, 3) := by decide +kernel
theorem dX3_findBest_16 : decode cX3_findBest 16 = .ok (.aload_n 0, 1) := by decide +kernel
theorem dX3_findBest_17 : decode cX3_findBest 17 = .ok (.iload_n 1, 1) := by decide +kernel
theorem dX3_findBest_18 : decode cX3_findBest 18 = .ok (.putfield 47, 3) := by decide +kernel
theorem dX3_findBest_21 : decode cX3_findBest 21 = .ok (.aload_n 0, 1) := by decide +kernel
theorem dX3_findBest_22 : decode cX3_findBest 22 = .ok (.iload_n 2, 1) := by decide +kernel
theorem dX3_findBest_23 : decode cX3_findBest 23 = .ok (.putfield 57, 3) := by decide +kernel
theorem dX3_findBest_26 : decode cX3_findBest 26 = .ok (.aload_n 0, 1) := by decide +kernel
theorem dX3_findBest_27 : decode cX3_findBest 27 = .ok (.iconst 0, 1) := by decide +kernel
theorem dX3_findBest_28 : decode cX3_findBest 28 = .ok (.putfield 51, 3) := by decide +kernel
theorem dX3_findBest_31 : decode cX3_findBest 31 = .ok (.aload_n 0, 1) := by decide +kernel
theorem dX3_findBest_32 : decode cX3_findBest 32 = .ok (.iconst 0, 1) := by decide +kernel
theorem dX3_findBest_33 : decode cX3_findBest 33 = .ok (.putfield 54, 3) := by decide +kernel
theorem dX3_findBest_36 : decode cX3_findBest 36 = .ok (.aload_n 0, 1) := by decide +kernel
theorem dX3_findBest_37 : decode cX3_findBest 37 = .ok (.invokevirtual 60, 3) := by decide +kernel
theorem dX3_findBest_40 : decode cX3_findBest 40 = .ok (.aload_n 0, 1) := by decide +kernel
theorem dX3_findBest_41 : decode cX3_findBest 41 = .ok (.getfield 63, 3) := by decide +kernel
theorem dX3_findBest_44 : decode cX3_findBest 44 = .ok (.bipush 16, 2) := by decide +kernel
theorem dX3_findBest_46 : decode cX3_findBest 46 = .ok (.if_icmp .gt 23, 3) := by decide +kernel
theorem dX3_findBest_49 : decode cX3_findBest 49 = .ok (.aload_n 0, 1) := by decide +kernel
theorem dX3_findBest_50 : decode cX3_findBest 50 = .ok (.invokevirtual 66, 3) := by decide +kernel
theorem dX3_findBest_53 : decode cX3_findBest 53 = .ok (.aload_n 0, 1) := by decide +kernel
theorem dX3_findBest_54 : decode cX3_findBest 54 = .ok (.invokevirtual 69, 3) := by decide +kernel
theorem dX3_findBest_57 : decode cX3_findBest 57 = .ok (.aload_n 0, 1) := by decide +kernel
theorem dX3_findBest_58 : decode cX3_findBest 58 = .ok (.getfield 30, 3) := by decide +kernel
theorem dX3_findBest_61 : decode cX3_findBest 61 = .ok (.iconst 0, 1) := by decide +kernel
theorem dX3_findBest_62 : decode cX3_findBest 62 = .ok (.invokestatic 72, 3) := by decide +kernel
theorem dX3_findBest_65 : decode cX3_findBest 65 = .ok (.aload_n 0, 1) := by decide +kernel
theorem dX3_findBest_66 : decode cX3_findBest 66 = .ok (.invokevirtual 78, 3) := by decide +kernel
theorem dX3_findBest_69 : decode cX3_findBest 69 = .ok (.aload_n 0, 1) := by decide +kernel
theorem dX3_findBest_70 : decode cX3_findBest 70 = .ok (.getfield 63, 3) := by decide +kernel
theorem dX3_findBest_73 : decode cX3_findBest 73 = .ok (.bipush 16, 2) := by decide +kernel
theorem dX3_findBest_75 : decode cX3_findBest 75 = .ok (.if_icmp .gt 7, 3) := by decide +kernel
theorem dX3_findBest_78 : decode cX3_findBest 78 = .ok (.iconst 1, 1) := by decide +kernel
theorem dX3_findBest_79 : decode cX3_findBest 79 = .ok (.goto 4, 3) := by decide +kernel
theorem dX3_findBest_82 : decode cX3_findBest 82 = .ok (.iconst 0, 1) := by decide +kernel
theorem dX3_findBest_83 : decode cX3_findBest 83 = .ok (.ireturn, 1) := by decide +kernel
theorem dX3_collectCells_0 : decode cX3_collectCells 0 = .ok (.aload_n 0, 1) := by decide +kernel
theorem dX3_collectCells_1 : decode cX3_collectCells 1 = .ok (.iconst 0, 1) := by decide +kernel
theorem dX3_collectCells_2 : decode cX3_collectCells 2 = .ok (.putfield 63, 3) := by decide +kernel
theorem dX3_collectCells_5 : decode cX3_collectCells 5 = .ok (.iconst 0, 1) := by decide +kernel
theorem dX3_collectCells_6 : decode cX3_collectCells 6 = .ok (.istore_n 1, 1) := by decide +kernel
theorem dX3_collectCells_7 : decode cX3_collectCells 7 = .ok (.iload_n 1, 1) := by decide +kernel
theorem dX3_collectCells_8 : decode cX3_collectCells 8 = .ok (.bipush 36, 2) := by decide +kernel
theorem dX3_collectCells_10 : decode cX3_collectCells 10 = .ok (.if_icmp .ge 102, 3) := by decide +kernel
theorem dX3_collectCells_13 : decode cX3_collectCells 13 = .ok (.iload_n 1, 1) := by decide +kernel
theorem dX3_collectCells_14 : decode cX3_collectCells 14 = .ok (.bipush 6, 2) := by decide +kernel
theorem dX3_collectCells_16 : decode cX3_collectCells 16 = .ok (.irem, 1) := by decide +kernel
theorem dX3_collectCells_17 : decode cX3_collectCells 17 = .ok (.istore_n 2, 1) := by decide +kernel
theorem dX3_collectCells_18 : decode cX3_collectCells 18 = .ok (.iload_n 1, 1) := by decide +kernel
theorem dX3_collectCells_19 : decode cX3_collectCells 19 = .ok (.bipush 6, 2) := by decide +kernel
theorem dX3_collectCells_21 : decode cX3_collectCells 21 = .ok (.idiv, 1) := by decide +kernel
theorem dX3_collectCells_22 : decode cX3_collectCells 22 = .ok (.istore_n 3, 1) := by decide +kernel
theorem dX3_collectCells_23 : decode cX3_collectCells 23 = .ok (.aload_n 0, 1) := by decide +kernel
theorem dX3_collectCells_24 : decode cX3_collectCells 24 = .ok (.getfield 15, 3) := by decide +kernel
theorem dX3_collectCells_27 : decode cX3_collectCells 27 = .ok (.iload_n 1, 1) := by decide +kernel
theorem dX3_collectCells_28 : decode cX3_collectCells 28 = .ok (.iconst (-1), 1) := by decide +kernel
theorem dX3_collectCells_29 : decode cX3_collectCells 29 = .ok (.iastore, 1) := by decide +kernel
theorem dX3_collectCells_30 : decode cX3_collectCells 30 = .ok (.aload_n 0, 1) := by decide +kernel
theorem dX3_collectCells_31 : decode cX3_collectCells 31 = .ok (.getfield 39, 3) := by decide +kernel
theorem dX3_collectCells_34 : decode cX3_collectCells 34 = .ok (.iload_n 2, 1) := by decide +kernel
theorem dX3_collectCells_35 : decode cX3_collectCells 35 = .ok (.iload_n 3, 1) := by decide +kernel
theorem dX3_collectCells_36 : decode cX3_collectCells 36 = .ok (.aload_n 0, 1) := by decide +kernel
theorem dX3_collectCells_37 : decode cX3_collectCells 37 = .ok (.getfield 57, 3) := by decide +kernel
theorem dX3_collectCells_40 : decode cX3_collectCells 40 = .ok (.invokevirtual 81, 3) := by decide +kernel
theorem dX3_collectCells_43 : decode cX3_collectCells 43 = .ok (.aload_n 0, 1) := by decide +kernel
theorem dX3_collectCells_44 : decode cX3_collectCells 44 = .ok (.getfield 47, 3) := by decide +kernel
theorem dX3_collectCells_47 : decode cX3_collectCells 47 = .ok (.if_icmp .ne 59, 3) := by decide +kernel
theorem dX3_collectCells_50 : decode cX3_collectCells 50 = .ok (.aload_n 0, 1) := by decide +kernel
theorem dX3_collectCells_51 : decode cX3_collectCells 51 = .ok (.getfield 43, 3) := by decide +kernel
theorem dX3_collectCells_54 : decode cX3_collectCells 54 = .ok (.iload_n 2, 1) := by decide +kernel
theorem dX3_collectCells_55 : decode cX3_collectCells 55 = .ok (.iload_n 3, 1) := by decide +kernel
theorem dX3_collectCells_56 : decode cX3_collectCells 56 = .ok (.aload_n 0, 1) := by decide +kernel
theorem dX3_collectCells_57 : decode cX3_collectCells 57 = .ok (.getfield 57, 3) := by decide +kernel
theorem dX3_collectCells_60 : decode cX3_collectCells 60 = .ok (.invokevirtual 87, 3) := by decide +kernel
theorem dX3_collectCells_63 : decode cX3_collectCells 63 = .ok (.iconst (-1), 1) := by decide +kernel
theorem dX3_collectCells_64 : decode cX3_collectCells 64 = .ok (.if_icmp .ne 42, 3) := by decide +kernel
theorem dX3_collectCells_67 : decode cX3_collectCells 67 = .ok (.aload_n 0, 1) := by decide +kernel
theorem dX3_collectCells_68 : decode cX3_collectCells 68 = .ok (.getfield 15, 3) := by decide +kernel
theorem dX3_collectCells_71 : decode cX3_collectCells 71 = .ok (.iload_n 1, 1) := by decide +kernel
theorem dX3_collectCells_72 : decode cX3_collectCells 72 = .ok (.aload_n 0, 1) := by decide +kernel
theorem dX3_collectCells_73 : decode cX3_collectCells 73 = .ok (.getfield 63, 3) := by decide +kernel
theorem dX3_collectCells_76 : decode cX3_collectCells 76 = .ok (.iastore, 1) := by decide +kernel
theorem dX3_collectCells_77 : decode cX3_collectCells 77 = .ok (.aload_n 0, 1) := by decide +kernel
theorem dX3_collectCells_78 : decode cX3_collectCells 78 = .ok (.getfield 63, 3) := by decide +kernel
theorem dX3_collectCells_81 : decode cX3_collectCells 81 = .ok (.bipush 16, 2) := by decide +kernel
theorem dX3_collectCells_83 : decode cX3_collectCells 83 = .ok (.if_icmp .ge 13, 3) := by decide +kernel
theorem dX3_collectCells_86 : decode cX3_collectCells 86 = .ok (.aload_n 0, 1) := by decide +kernel
theorem dX3_collectCells_87 : decode cX3_collectCells 87 = .ok (.getfield 11, 3) := by decide +kernel
theorem dX3_collectCells_90 : decode cX3_collectCells 90 = .ok (.aload_n 0, 1) := by decide +kernel
theorem dX3_collectCells_91 : decode cX3_collectCells 91 = .ok (.getfield 63, 3) := by decide +kernel
theorem dX3_collectCells_94 : decode cX3_collectCells 94 = .ok (.iload_n 1, 1) := by decide +kernel
theorem dX3_collectCells_95 : decode cX3_collectCells 95 = .ok (.iastore, 1) := by decide +kernel
theorem dX3_collectCells_96 : decode cX3_collectCells 96 = .ok (.aload_n 0, 1) := by decide +kernel
theorem dX3_collectCells_97 : decode cX3_collectCells 97 = .ok (.dup, 1) := by decide +kernel
theorem dX3_collectCells_98 : decode cX3_collectCells 98 = .ok (.getfield 63, 3) := by decide +kernel
theorem dX3_collectCells_101 : decode cX3_collectCells 101 = .ok (.iconst 1, 1) := by decide +kernel
theorem dX3_collectCells_102 : decode cX3_collectCells 102 = .ok (.iadd, 1) := by decide +kernel
theorem dX3_collectCells_103 : decode cX3_collectCells 103 = .ok (.putfield 63, 3) := by decide +kernel
theorem dX3_collectCells_106 : decode cX3_collectCells 106 = .ok (.iinc 1 1, 3) := by decide +kernel
theorem dX3_collectCells_109 : decode cX3_collectCells 109 = .ok (.goto (-102), 3) := by decide +kernel
theorem dX3_collectCells_112 : decode cX3_collectCells 112 = .ok (.return_, 1) := by decide +kernel
theorem dX3_weighPairs_0 : decode cX3_weighPairs 0 = .ok (.iconst 0, 1) := by decide +kernel
theorem dX3_weighPairs_1 : decode cX3_weighPairs 1 = .ok (.istore_n 1, 1) := by decide +kernel
theorem dX3_weighPairs_2 : decode cX3_weighPairs 2 = .ok (.iload_n 1, 1) := by decide +kernel
theorem dX3_weighPairs_3 : decode cX3_weighPairs 3 = .ok (.bipush 36, 2) := by decide +kernel
theorem dX3_weighPairs_5 : decode cX3_weighPairs 5 = .ok (.if_icmp .ge 125, 3) := by decide +kernel
theorem dX3_weighPairs_8 : decode cX3_weighPairs 8 = .ok (.iload_n 1, 1) := by decide +kernel
theorem dX3_weighPairs_9 : decode cX3_weighPairs 9 = .ok (.bipush 6, 2) := by decide +kernel
theorem dX3_weighPairs_11 : decode cX3_weighPairs 11 = .ok (.irem, 1) := by decide +kernel
theorem dX3_weighPairs_12 : decode cX3_weighPairs 12 = .ok (.istore_n 2, 1) := by decide +kernel
theorem dX3_weighPairs_13 : decode cX3_weighPairs 13 = .ok (.iload_n 1, 1) := by decide +kernel
theorem dX3_weighPairs_14 : decode cX3_weighPairs 14 = .ok (.bipush 6, 2) := by decide +kernel
theorem dX3_weighPairs_16 : decode cX3_weighPairs 16 = .ok (.idiv, 1) := by decide +kernel
theorem dX3_weighPairs_17 : decode cX3_weighPairs 17 = .ok (.istore_n 3, 1) := by decide +kernel
theorem dX3_weighPairs_18 : decode cX3_weighPairs 18 = .ok (.aload_n 0, 1) := by decide +kernel
theorem dX3_weighPairs_19 : decode cX3_weighPairs 19 = .ok (.getfield 18, 3) := by decide +kernel
theorem dX3_weighPairs_22 : decode cX3_weighPairs 22 = .ok (.iload_n 1, 1) := by decide +kernel
theorem dX3_weighPairs_23 : decode cX3_weighPairs 23 = .ok (.aload_n 0, 1) := by decide +kernel
theorem dX3_weighPairs_24 : decode cX3_weighPairs 24 = .ok (.getfield 43, 3) := by decide +kernel
theorem dX3_weighPairs_27 : decode cX3_weighPairs 27 = .ok (.iload_n 2, 1) := by decide +kernel
theorem dX3_weighPairs_28 : decode cX3_weighPairs 28 = .ok (.iload_n 3, 1) := by decide +kernel
theorem dX3_weighPairs_29 : decode cX3_weighPairs 29 = .ok (.aload_n 0, 1) := by decide +kernel
theorem dX3_weighPairs_30 : decode cX3_weighPairs 30 = .ok (.getfield 57, 3) := by decide +kernel
theorem dX3_weighPairs_33 : decode cX3_weighPairs 33 = .ok (.iconst 1, 1) := by decide +kernel
theorem dX3_weighPairs_34 : decode cX3_weighPairs 34 = .ok (.isub, 1) := by decide +kernel
theorem dX3_weighPairs_35 : decode cX3_weighPairs 35 = .ok (.invokevirtual 92, 3) := by decide +kernel
theorem dX3_weighPairs_38 : decode cX3_weighPairs 38 = .ok (.ifCond .eq 7, 3) := by decide +kernel
theorem dX3_weighPairs_41 : decode cX3_weighPairs 41 = .ok (.iconst 1, 1) := by decide +kernel
theorem dX3_weighPairs_42 : decode cX3_weighPairs 42 = .ok (.goto 4, 3) := by decide +kernel
theorem dX3_weighPairs_45 : decode cX3_weighPairs 45 = .ok (.iconst 0, 1) := by decide +kernel
theorem dX3_weighPairs_46 : decode cX3_weighPairs 46 = .ok (.aload_n 0, 1) := by decide +kernel
theorem dX3_weighPairs_47 : decode cX3_weighPairs 47 = .ok (.getfield 43, 3) := by decide +kernel
theorem dX3_weighPairs_50 : decode cX3_weighPairs 50 = .ok (.iload_n 2, 1) := by decide +kernel
theorem dX3_weighPairs_51 : decode cX3_weighPairs 51 = .ok (.iload_n 3, 1) := by decide +kernel
theorem dX3_weighPairs_52 : decode cX3_weighPairs 52 = .ok (.aload_n 0, 1) := by decide +kernel
theorem dX3_weighPairs_53 : decode cX3_weighPairs 53 = .ok (.getfield 57, 3) := by decide +kernel
theorem dX3_weighPairs_56 : decode cX3_weighPairs 56 = .ok (.iconst 1, 1) := by decide +kernel
theorem dX3_weighPairs_57 : decode cX3_weighPairs 57 = .ok (.iadd, 1) := by decide +kernel
theorem dX3_weighPairs_58 : decode cX3_weighPairs 58 = .ok (.invokevirtual 92, 3) := by decide +kernel
theorem dX3_weighPairs_61 : decode cX3_weighPairs 61 = .ok (.ifCond .eq 7, 3) := by decide +kernel
theorem dX3_weighPairs_64 : decode cX3_weighPairs 64 = .ok (.iconst 1, 1) := by decide +kernel
theorem dX3_weighPairs_65 : decode cX3_weighPairs 65 = .ok (.goto 4, 3) := by decide +kernel
theorem dX3_weighPairs_68 : decode cX3_weighPairs 68 = .ok (.iconst 0, 1) := by decide +kernel
theorem dX3_weighPairs_69 : decode cX3_weighPairs 69 = .ok (.iadd, 1) := by decide +kernel
theorem dX3_weighPairs_70 : decode cX3_weighPairs 70 = .ok (.iastore, 1) := by decide +kernel
theorem dX3_weighPairs_71 : decode cX3_weighPairs 71 = .ok (.aload_n 0, 1) := by decide +kernel
theorem dX3_weighPairs_72 : decode cX3_weighPairs 72 = .ok (.getfield 21, 3) := by decide +kernel
theorem dX3_weighPairs_75 : decode cX3_weighPairs 75 = .ok (.iload_n 1, 1) := by decide +kernel
theorem dX3_weighPairs_76 : decode cX3_weighPairs 76 = .ok (.aload_n 0, 1) := by decide +kernel
theorem dX3_weighPairs_77 : decode cX3_weighPairs 77 = .ok (.getfield 43, 3) := by decide +kernel
theorem dX3_weighPairs_80 : decode cX3_weighPairs 80 = .ok (.iload_n 2, 1) := by decide +kernel
theorem dX3_weighPairs_81 : decode cX3_weighPairs 81 = .ok (.iload_n 3, 1) := by decide +kernel
theorem dX3_weighPairs_82 : decode cX3_weighPairs 82 = .ok (.aload_n 0, 1) := by decide +kernel
theorem dX3_weighPairs_83 : decode cX3_weighPairs 83 = .ok (.getfield 57, 3) := by decide +kernel
theorem dX3_weighPairs_86 : decode cX3_weighPairs 86 = .ok (.iconst 1, 1) := by decide +kernel
theorem dX3_weighPairs_87 : decode cX3_weighPairs 87 = .ok (.isub, 1) := by decide +kernel
theorem dX3_weighPairs_88 : decode cX3_weighPairs 88 = .ok (.invokevirtual 96, 3) := by decide +kernel
theorem dX3_weighPairs_91 : decode cX3_weighPairs 91 = .ok (.ifCond .eq 7, 3) := by decide +kernel
theorem dX3_weighPairs_94 : decode cX3_weighPairs 94 = .ok (.iconst 1, 1) := by decide +kernel
theorem dX3_weighPairs_95 : decode cX3_weighPairs 95 = .ok (.goto 4, 3) := by decide +kernel
theorem dX3_weighPairs_98 : decode cX3_weighPairs 98 = .ok (.iconst 0, 1) := by decide +kernel
theorem dX3_weighPairs_99 : decode cX3_weighPairs 99 = .ok (.aload_n 0, 1) := by decide +kernel
theorem dX3_weighPairs_100 : decode cX3_weighPairs 100 = .ok (.getfield 43, 3) := by decide +kernel
theorem dX3_weighPairs_103 : decode cX3_weighPairs 103 = .ok (.iload_n 2, 1) := by decide +kernel
theorem dX3_weighPairs_104 : decode cX3_weighPairs 104 = .ok (.iload_n 3, 1) := by decide +kernel
theorem dX3_weighPairs_105 : decode cX3_weighPairs 105 = .ok (.aload_n 0, 1) := by decide +kernel
theorem dX3_weighPairs_106 : decode cX3_weighPairs 106 = .ok (.getfield 57, 3) := by decide +kernel
theorem dX3_weighPairs_109 : decode cX3_weighPairs 109 = .ok (.iconst 1, 1) := by decide +kernel
theorem dX3_weighPairs_110 : decode cX3_weighPairs 110 = .ok (.iadd, 1) := by decide +kernel
theorem dX3_weighPairs_111 : decode cX3_weighPairs 111 = .ok (.invokevirtual 96, 3) := by decide +kernel
theorem dX3_weighPairs_114 : decode cX3_weighPairs 114 = .ok (.ifCond .eq 7, 3) := by decide +kernel
theorem dX3_weighPairs_117 : decode cX3_weighPairs 117 = .ok (.iconst 1, 1) := by decide +kernel
theorem dX3_weighPairs_118 : decode cX3_weighPairs 118 = .ok (.goto 4, 3) := by decide +kernel
theorem dX3_weighPairs_121 : decode cX3_weighPairs 121 = .ok (.iconst 0, 1) := by decide +kernel
theorem dX3_weighPairs_122 : decode cX3_weighPairs 122 = .ok (.iadd, 1) := by decide +kernel
theorem dX3_weighPairs_123 : decode cX3_weighPairs 123 = .ok (.iastore, 1) := by decide +kernel
theorem dX3_weighPairs_124 : decode cX3_weighPairs 124 = .ok (.iinc 1 1, 3) := by decide +kernel
theorem dX3_weighPairs_127 : decode cX3_weighPairs 127 = .ok (.goto (-125), 3) := by decide +kernel
theorem dX3_weighPairs_130 : decode cX3_weighPairs 130 = .ok (.return_, 1) := by decide +kernel
theorem dX3_findFits_0 : decode cX3_findFits 0 = .ok (.iconst 0, 1) := by decide +kernel
theorem dX3_findFits_1 : decode cX3_findFits 1 = .ok (.istore_n 1, 1) := by decide +kernel
theorem dX3_findFits_2 : decode cX3_findFits 2 = .ok (.iload_n 1, 1) := by decide +kernel
theorem dX3_findFits_3 : decode cX3_findFits 3 = .ok (.aload_n 0, 1) := by decide +kernel
theorem dX3_findFits_4 : decode cX3_findFits 4 = .ok (.getfield 63, 3) := by decide +kernel
theorem dX3_findFits_7 : decode cX3_findFits 7 = .ok (.if_icmp .ge 35, 3) := by decide +kernel
theorem dX3_findFits_10 : decode cX3_findFits 10 = .ok (.iload_n 1, 1) := by decide +kernel
theorem dX3_findFits_11 : decode cX3_findFits 11 = .ok (.bipush 16, 2) := by decide +kernel
theorem dX3_findFits_13 : decode cX3_findFits 13 = .ok (.if_icmp .ge 29, 3) := by decide +kernel
theorem dX3_findFits_16 : decode cX3_findFits 16 = .ok (.iconst 0, 1) := by decide +kernel
theorem dX3_findFits_17 : decode cX3_findFits 17 = .ok (.istore_n 2, 1) := by decide +kernel
theorem dX3_findFits_18 : decode cX3_findFits 18 = .ok (.iload_n 2, 1) := by decide +kernel
theorem dX3_findFits_19 : decode cX3_findFits 19 = .ok (.bipush 12, 2) := by decide +kernel
theorem dX3_findFits_21 : decode cX3_findFits 21 = .ok (.if_icmp .ge 15, 3) := by decide +kernel
theorem dX3_findFits_24 : decode cX3_findFits 24 = .ok (.aload_n 0, 1) := by decide +kernel
theorem dX3_findFits_25 : decode cX3_findFits 25 = .ok (.iload_n 1, 1) := by decide +kernel
theorem dX3_findFits_26 : decode cX3_findFits 26 = .ok (.iload_n 2, 1) := by decide +kernel
theorem dX3_findFits_27 : decode cX3_findFits 27 = .ok (.invokevirtual 99, 3) := by decide +kernel
theorem dX3_findFits_30 : decode cX3_findFits 30 = .ok (.iinc 2 1, 3) := by decide +kernel
theorem dX3_findFits_33 : decode cX3_findFits 33 = .ok (.goto (-15), 3) := by decide +kernel
theorem dX3_findFits_36 : decode cX3_findFits 36 = .ok (.iinc 1 1, 3) := by decide +kernel
theorem dX3_findFits_39 : decode cX3_findFits 39 = .ok (.goto (-37), 3) := by decide +kernel
theorem dX3_findFits_42 : decode cX3_findFits 42 = .ok (.return_, 1) := by decide +kernel
theorem dX3_findFit_0 : decode cX3_findFit 0 = .ok (.getstatic 103, 3) := by decide +kernel
theorem dX3_findFit_3 : decode cX3_findFit 3 = .ok (.iload_n 2, 1) := by decide +kernel
theorem dX3_findFit_4 : decode cX3_findFit 4 = .ok (.iaload, 1) := by decide +kernel
theorem dX3_findFit_5 : decode cX3_findFit 5 = .ok (.getstatic 106, 3) := by decide +kernel
theorem dX3_findFit_8 : decode cX3_findFit 8 = .ok (.iload_n 2, 1) := by decide +kernel
theorem dX3_findFit_9 : decode cX3_findFit 9 = .ok (.iaload, 1) := by decide +kernel
theorem dX3_findFit_10 : decode cX3_findFit 10 = .ok (.invokestatic 109, 3) := by decide +kernel
theorem dX3_findFit_13 : decode cX3_findFit 13 = .ok (.istore_n 3, 1) := by decide +kernel
theorem dX3_findFit_14 : decode cX3_findFit 14 = .ok (.getstatic 103, 3) := by decide +kernel
theorem dX3_findFit_17 : decode cX3_findFit 17 = .ok (.iload_n 2, 1) := by decide +kernel
theorem dX3_findFit_18 : decode cX3_findFit 18 = .ok (.iaload, 1) := by decide +kernel
theorem dX3_findFit_19 : decode cX3_findFit 19 = .ok (.getstatic 106, 3) := by decide +kernel
theorem dX3_findFit_22 : decode cX3_findFit 22 = .ok (.iload_n 2, 1) := by decide +kernel
theorem dX3_findFit_23 : decode cX3_findFit 23 = .ok (.iaload, 1) := by decide +kernel
theorem dX3_findFit_24 : decode cX3_findFit 24 = .ok (.invokestatic 113, 3) := by decide +kernel
theorem dX3_findFit_27 : decode cX3_findFit 27 = .ok (.istore 4, 2) := by decide +kernel
theorem dX3_findFit_29 : decode cX3_findFit 29 = .ok (.iload_n 1, 1) := by decide +kernel
theorem dX3_findFit_30 : decode cX3_findFit 30 = .ok (.bipush 12, 2) := by decide +kernel
theorem dX3_findFit_32 : decode cX3_findFit 32 = .ok (.imul, 1) := by decide +kernel
theorem dX3_findFit_33 : decode cX3_findFit 33 = .ok (.iload_n 2, 1) := by decide +kernel
theorem dX3_findFit_34 : decode cX3_findFit 34 = .ok (.iadd, 1) := by decide +kernel
theorem dX3_findFit_35 : decode cX3_findFit 35 = .ok (.istore 5, 2) := by decide +kernel
theorem dX3_findFit_37 : decode cX3_findFit 37 = .ok (.aload_n 0, 1) := by decide +kernel
theorem dX3_findFit_38 : decode cX3_findFit 38 = .ok (.getfield 24, 3) := by decide +kernel
theorem dX3_findFit_41 : decode cX3_findFit 41 = .ok (.iload 5, 2) := by decide +kernel
theorem dX3_findFit_43 : decode cX3_findFit 43 = .ok (.iconst 0, 1) := by decide +kernel
theorem dX3_findFit_44 : decode cX3_findFit 44 = .ok (.iastore, 1) := by decide +kernel
theorem dX3_findFit_45 : decode cX3_findFit 45 = .ok (.iconst 0, 1) := by decide +kernel
theorem dX3_findFit_46 : decode cX3_findFit 46 = .ok (.istore 6, 2) := by decide +kernel
theorem dX3_findFit_48 : decode cX3_findFit 48 = .ok (.iconst 0, 1) := by decide +kernel
theorem dX3_findFit_49 : decode cX3_findFit 49 = .ok (.istore 7, 2) := by decide +kernel
theorem dX3_findFit_51 : decode cX3_findFit 51 = .ok (.iconst 0, 1) := by decide +kernel
theorem dX3_findFit_52 : decode cX3_findFit 52 = .ok (.istore 8, 2) := by decide +kernel
theorem dX3_findFit_54 : decode cX3_findFit 54 = .ok (.iload 8, 2) := by decide +kernel
theorem dX3_findFit_56 : decode cX3_findFit 56 = .ok (.iload 4, 2) := by decide +kernel
theorem dX3_findFit_58 : decode cX3_findFit 58 = .ok (.if_icmp .ge 128, 3) := by decide +kernel
theorem dX3_findFit_61 : decode cX3_findFit 61 = .ok (.iconst 0, 1) := by decide +kernel
theorem dX3_findFit_62 : decode cX3_findFit 62 = .ok (.istore 9, 2) := by decide +kernel
theorem dX3_findFit_64 : decode cX3_findFit 64 = .ok (.iload 9, 2) := by decide +kernel
theorem dX3_findFit_66 : decode cX3_findFit 66 = .ok (.iload_n 3, 1) := by decide +kernel
theorem dX3_findFit_67 : decode cX3_findFit 67 = .ok (.if_icmp .ge 113, 3) := by decide +kernel
theorem dX3_findFit_70 : decode cX3_findFit 70 = .ok (.aload_n 0, 1) := by decide +kernel
theorem dX3_findFit_71 : decode cX3_findFit 71 = .ok (.aload_n 0, 1) := by decide +kernel
theorem dX3_findFit_72 : decode cX3_findFit 72 = .ok (.getfield 11, 3) := by decide +kernel
theorem dX3_findFit_75 : decode cX3_findFit 75 = .ok (.iload_n 1, 1) := by decide +kernel
theorem dX3_findFit_76 : decode cX3_findFit 76 = .ok (.iaload, 1) := by decide +kernel
theorem dX3_findFit_77 : decode cX3_findFit 77 = .ok (.bipush 6, 2) := by decide +kernel
theorem dX3_findFit_79 : decode cX3_findFit 79 = .ok (.irem, 1) := by decide +kernel
theorem dX3_findFit_80 : decode cX3_findFit 80 = .ok (.iload 9, 2) := by decide +kernel
theorem dX3_findFit_82 : decode cX3_findFit 82 = .ok (.iadd, 1) := by decide +kernel
theorem dX3_findFit_83 : decode cX3_findFit 83 = .ok (.aload_n 0, 1) := by decide +kernel
theorem dX3_findFit_84 : decode cX3_findFit 84 = .ok (.getfield 11, 3) := by decide +kernel
theorem dX3_findFit_87 : decode cX3_findFit 87 = .ok (.iload_n 1, 1) := by decide +kernel
theorem dX3_findFit_88 : decode cX3_findFit 88 = .ok (.iaload, 1) := by decide +kernel
theorem dX3_findFit_89 : decode cX3_findFit 89 = .ok (.bipush 6, 2) := by decide +kernel
theorem dX3_findFit_91 : decode cX3_findFit 91 = .ok (.idiv, 1) := by decide +kernel
theorem dX3_findFit_92 : decode cX3_findFit 92 = .ok (.iload 8, 2) := by decide +kernel
theorem dX3_findFit_94 : decode cX3_findFit 94 = .ok (.iadd, 1) := by decide +kernel
theorem dX3_findFit_95 : decode cX3_findFit 95 = .ok (.invokevirtual 116, 3) := by decide +kernel
theorem dX3_findFit_98 : decode cX3_findFit 98 = .ok (.istore 10, 2) := by decide +kernel
theorem dX3_findFit_100 : decode cX3_findFit 100 = .ok (.iload 10, 2) := by decide +kernel
theorem dX3_findFit_102 : decode cX3_findFit 102 = .ok (.ifCond .ge 4, 3) := by decide +kernel
theorem dX3_findFit_105 : decode cX3_findFit 105 = .ok (.return_, 1) := by decide +kernel
theorem dX3_findFit_106 : decode cX3_findFit 106 = .ok (.iload 6, 2) := by decide +kernel
theorem dX3_findFit_108 : decode cX3_findFit 108 = .ok (.iconst 1, 1) := by decide +kernel
theorem dX3_findFit_109 : decode cX3_findFit 109 = .ok (.iload 10, 2) := by decide +kernel
theorem dX3_findFit_111 : decode cX3_findFit 111 = .ok (.ishl, 1) := by decide +kernel
theorem dX3_findFit_112 : decode cX3_findFit 112 = .ok (.ior, 1) := by decide +kernel
theorem dX3_findFit_113 : decode cX3_findFit 113 = .ok (.istore 6, 2) := by decide +kernel
theorem dX3_findFit_115 : decode cX3_findFit 115 = .ok (.iload 7, 2) := by decide +kernel
theorem dX3_findFit_117 : decode cX3_findFit 117 = .ok (.iload 9, 2) := by decide +kernel
theorem dX3_findFit_119 : decode cX3_findFit 119 = .ok (.iconst 1, 1) := by decide +kernel
theorem dX3_findFit_120 : decode cX3_findFit 120 = .ok (.iadd, 1) := by decide +kernel
theorem dX3_findFit_121 : decode cX3_findFit 121 = .ok (.iload_n 3, 1) := by decide +kernel
theorem dX3_findFit_122 : decode cX3_findFit 122 = .ok (.if_icmp .ge 18, 3) := by decide +kernel
theorem dX3_findFit_125 : decode cX3_findFit 125 = .ok (.aload_n 0, 1) := by decide +kernel
theorem dX3_findFit_126 : decode cX3_findFit 126 = .ok (.getfield 18, 3) := by decide +kernel
theorem dX3_findFit_129 : decode cX3_findFit 129 = .ok (.aload_n 0, 1) := by decide +kernel
theorem dX3_findFit_130 : decode cX3_findFit 130 = .ok (.getfield 11, 3) := by decide +kernel
theorem dX3_findFit_133 : decode cX3_findFit 133 = .ok (.iload 10, 2) := by decide +kernel
theorem dX3_findFit_135 : decode cX3_findFit 135 = .ok (.iaload, 1) := by decide +kernel
theorem dX3_findFit_136 : decode cX3_findFit 136 = .ok (.iaload, 1) := by decide +kernel
theorem dX3_findFit_137 : decode cX3_findFit 137 = .ok (.goto 4, 3) := by decide +kernel
theorem dX3_findFit_140 : decode cX3_findFit 140 = .ok (.iconst 0, 1) := by decide +kernel
theorem dX3_findFit_141 : decode cX3_findFit 141 = .ok (.iadd, 1) := by decide +kernel
theorem dX3_findFit_142 : decode cX3_findFit 142 = .ok (.istore 7, 2) := by decide +kernel
theorem dX3_findFit_144 : decode cX3_findFit 144 = .ok (.iload 7, 2) := by decide +kernel
theorem dX3_findFit_146 : decode cX3_findFit 146 = .ok (.iload 8, 2) := by decide +kernel
theorem dX3_findFit_148 : decode cX3_findFit 148 = .ok (.iconst 1, 1) := by decide +kernel
theorem dX3_findFit_149 : decode cX3_findFit 149 = .ok (.iadd, 1) := by decide +kernel
theorem dX3_findFit_150 : decode cX3_findFit 150 = .ok (.iload 4, 2) := by decide +kernel
theorem dX3_findFit_152 : decode cX3_findFit 152 = .ok (.if_icmp .ge 18, 3) := by decide +kernel
theorem dX3_findFit_155 : decode cX3_findFit 155 = .ok (.aload_n 0, 1) := by decide +kernel
theorem dX3_findFit_156 : decode cX3_findFit 156 = .ok (.getfield 21, 3) := by decide +kernel
theorem dX3_findFit_159 : decode cX3_findFit 159 = .ok (.aload_n 0, 1) := by decide +kernel
theorem dX3_findFit_160 : decode cX3_findFit 160 = .ok (.getfield 11, 3) := by decide +kernel
theorem dX3_findFit_163 : decode cX3_findFit 163 = .ok (.iload 10, 2) := by decide +kernel
theorem dX3_findFit_165 : decode cX3_findFit 165 = .ok (.iaload, 1) := by decide +kernel
theorem dX3_findFit_166 : decode cX3_findFit 166 = .ok (.iaload, 1) := by decide +kernel
theorem dX3_findFit_167 : decode cX3_findFit 167 = .ok (.goto 4, 3) := by decide +kernel
theorem dX3_findFit_170 : decode cX3_findFit 170 = .ok (.iconst 0, 1) := by decide +kernel
theorem dX3_findFit_171 : decode cX3_findFit 171 = .ok (.iadd, 1) := by decide +kernel
theorem dX3_findFit_172 : decode cX3_findFit 172 = .ok (.istore 7, 2) := by decide +kernel
theorem dX3_findFit_174 : decode cX3_findFit 174 = .ok (.iinc 9 1, 3) := by decide +kernel
theorem dX3_findFit_177 : decode cX3_findFit 177 = .ok (.goto (-113), 3) := by decide +kernel
theorem dX3_findFit_180 : decode cX3_findFit 180 = .ok (.iinc 8 1, 3) := by decide +kernel
theorem dX3_findFit_183 : decode cX3_findFit 183 = .ok (.goto (-129), 3) := by decide +kernel
theorem dX3_findFit_186 : decode cX3_findFit 186 = .ok (.aload_n 0, 1) := by decide +kernel
theorem dX3_findFit_187 : decode cX3_findFit 187 = .ok (.getfield 24, 3) := by decide +kernel
theorem dX3_findFit_190 : decode cX3_findFit 190 = .ok (.iload 5, 2) := by decide +kernel
theorem dX3_findFit_192 : decode cX3_findFit 192 = .ok (.iload 6, 2) := by decide +kernel
theorem dX3_findFit_194 : decode cX3_findFit 194 = .ok (.iastore, 1) := by decide +kernel
theorem dX3_findFit_195 : decode cX3_findFit 195 = .ok (.aload_n 0, 1) := by decide +kernel
theorem dX3_findFit_196 : decode cX3_findFit 196 = .ok (.getfield 27, 3) := by decide +kernel
theorem dX3_findFit_199 : decode cX3_findFit 199 = .ok (.iload 5, 2) := by decide +kernel
theorem dX3_findFit_201 : decode cX3_findFit 201 = .ok (.iload 7, 2) := by decide +kernel
theorem dX3_findFit_203 : decode cX3_findFit 203 = .ok (.iastore, 1) := by decide +kernel
theorem dX3_findFit_204 : decode cX3_findFit 204 = .ok (.return_, 1) := by decide +kernel
theorem dX3_numberAt_0 : decode cX3_numberAt 0 = .ok (.iload_n 1, 1) := by decide +kernel
theorem dX3_numberAt_1 : decode cX3_numberAt 1 = .ok (.bipush 6, 2) := by decide +kernel
theorem dX3_numberAt_3 : decode cX3_numberAt 3 = .ok (.if_icmp .ge 9, 3) := by decide +kernel
theorem dX3_numberAt_6 : decode cX3_numberAt 6 = .ok (.iload_n 2, 1) := by decide +kernel
theorem dX3_numberAt_7 : decode cX3_numberAt 7 = .ok (.bipush 6, 2) := by decide +kernel
theorem dX3_numberAt_9 : decode cX3_numberAt 9 = .ok (.if_icmp .lt 5, 3) := by decide +kernel
theorem dX3_numberAt_12 : decode cX3_numberAt 12 = .ok (.iconst (-1), 1) := by decide +kernel
theorem dX3_numberAt_13 : decode cX3_numberAt 13 = .ok (.ireturn, 1) := by decide +kernel
theorem dX3_numberAt_14 : decode cX3_numberAt 14 = .ok (.aload_n 0, 1) := by decide +kernel
theorem dX3_numberAt_15 : decode cX3_numberAt 15 = .ok (.getfield 15, 3) := by decide +kernel
theorem dX3_numberAt_18 : decode cX3_numberAt 18 = .ok (.iload_n 2, 1) := by decide +kernel
theorem dX3_numberAt_19 : decode cX3_numberAt 19 = .ok (.bipush 6, 2) := by decide +kernel
theorem dX3_numberAt_21 : decode cX3_numberAt 21 = .ok (.imul, 1) := by decide +kernel
theorem dX3_numberAt_22 : decode cX3_numberAt 22 = .ok (.iload_n 1, 1) := by decide +kernel
theorem dX3_numberAt_23 : decode cX3_numberAt 23 = .ok (.iadd, 1) := by decide +kernel
theorem dX3_numberAt_24 : decode cX3_numberAt 24 = .ok (.iaload, 1) := by decide +kernel
theorem dX3_numberAt_25 : decode cX3_numberAt 25 = .ok (.istore_n 3, 1) := by decide +kernel
theorem dX3_numberAt_26 : decode cX3_numberAt 26 = .ok (.iload_n 3, 1) := by decide +kernel
theorem dX3_numberAt_27 : decode cX3_numberAt 27 = .ok (.bipush 16, 2) := by decide +kernel
theorem dX3_numberAt_29 : decode cX3_numberAt 29 = .ok (.if_icmp .ge 7, 3) := by decide +kernel
theorem dX3_numberAt_32 : decode cX3_numberAt 32 = .ok (.iload_n 3, 1) := by decide +kernel
theorem dX3_numberAt_33 : decode cX3_numberAt 33 = .ok (.goto 4, 3) := by decide +kernel
theorem dX3_numberAt_36 : decode cX3_numberAt 36 = .ok (.iconst (-1), 1) := by decide +kernel
theorem dX3_numberAt_37 : decode cX3_numberAt 37 = .ok (.ireturn, 1) := by decide +kernel
theorem dX3_tell_0 : decode cX3_tell 0 = .ok (.iconst 0, 1) := by decide +kernel
theorem dX3_tell_1 : decode cX3_tell 1 = .ok (.istore_n 1, 1) := by decide +kernel
theorem dX3_tell_2 : decode cX3_tell 2 = .ok (.iconst 0, 1) := by decide +kernel
theorem dX3_tell_3 : decode cX3_tell 3 = .ok (.istore_n 2, 1) := by decide +kernel
theorem dX3_tell_4 : decode cX3_tell 4 = .ok (.iconst 0, 1) := by decide +kernel
theorem dX3_tell_5 : decode cX3_tell 5 = .ok (.istore_n 3, 1) := by decide +kernel
theorem dX3_tell_6 : decode cX3_tell 6 = .ok (.iload_n 3, 1) := by decide +kernel
theorem dX3_tell_7 : decode cX3_tell 7 = .ok (.bipush 16, 2) := by decide +kernel
theorem dX3_tell_9 : decode cX3_tell 9 = .ok (.if_icmp .ge 123, 3) := by decide +kernel
theorem dX3_tell_12 : decode cX3_tell 12 = .ok (.iload_n 1, 1) := by decide +kernel
theorem dX3_tell_13 : decode cX3_tell 13 = .ok (.iconst 1, 1) := by decide +kernel
theorem dX3_tell_14 : decode cX3_tell 14 = .ok (.aload_n 0, 1) := by decide +kernel
theorem dX3_tell_15 : decode cX3_tell 15 = .ok (.getfield 63, 3) := by decide +kernel
theorem dX3_tell_18 : decode cX3_tell 18 = .ok (.ishl, 1) := by decide +kernel
theorem dX3_tell_19 : decode cX3_tell 19 = .ok (.iconst 1, 1) := by decide +kernel
theorem dX3_tell_20 : decode cX3_tell 20 = .ok (.isub, 1) := by decide +kernel
theorem dX3_tell_21 : decode cX3_tell 21 = .ok (.if_icmp .eq 111, 3) := by decide +kernel
theorem dX3_tell_24 : decode cX3_tell 24 = .ok (.aload_n 0, 1) := by decide +kernel
theorem dX3_tell_25 : decode cX3_tell 25 = .ok (.iload_n 1, 1) := by decide +kernel
theorem dX3_tell_26 : decode cX3_tell 26 = .ok (.invokevirtual 119, 3) := by decide +kernel
theorem dX3_tell_29 : decode cX3_tell 29 = .ok (.istore 4, 2) := by decide +kernel
theorem dX3_tell_31 : decode cX3_tell 31 = .ok (.iload 4, 2) := by decide +kernel
theorem dX3_tell_33 : decode cX3_tell 33 = .ok (.ifCond .ge 4, 3) := by decide +kernel
theorem dX3_tell_36 : decode cX3_tell 36 = .ok (.return_, 1) := by decide +kernel
theorem dX3_tell_37 : decode cX3_tell 37 = .ok (.aload_n 0, 1) := by decide +kernel
theorem dX3_tell_38 : decode cX3_tell 38 = .ok (.getfield 11, 3) := by decide +kernel
theorem dX3_tell_41 : decode cX3_tell 41 = .ok (.iload 4, 2) := by decide +kernel
theorem dX3_tell_43 : decode cX3_tell 43 = .ok (.bipush 12, 2) := by decide +kernel
theorem dX3_tell_45 : decode cX3_tell 45 = .ok (.idiv, 1) := by decide +kernel
theorem dX3_tell_46 : decode cX3_tell 46 = .ok (.iaload, 1) := by decide +kernel
theorem dX3_tell_47 : decode cX3_tell 47 = .ok (.istore 5, 2) := by decide +kernel
theorem dX3_tell_49 : decode cX3_tell 49 = .ok (.aload_n 0, 1) := by decide +kernel
theorem dX3_tell_50 : decode cX3_tell 50 = .ok (.getfield 36, 3) := by decide +kernel
theorem dX3_tell_53 : decode cX3_tell 53 = .ok (.iload_n 3, 1) := by decide +kernel
theorem dX3_tell_54 : decode cX3_tell 54 = .ok (.getstatic 103, 3) := by decide +kernel
theorem dX3_tell_57 : decode cX3_tell 57 = .ok (.iload 4, 2) := by decide +kernel
theorem dX3_tell_59 : decode cX3_tell 59 = .ok (.bipush 12, 2) := by decide +kernel
theorem dX3_tell_61 : decode cX3_tell 61 = .ok (.irem, 1) := by decide +kernel
theorem dX3_tell_62 : decode cX3_tell 62 = .ok (.iaload, 1) := by decide +kernel
theorem dX3_tell_63 : decode cX3_tell 63 = .ok (.bipush 10, 2) := by decide +kernel
theorem dX3_tell_65 : decode cX3_tell 65 = .ok (.getstatic 106, 3) := by decide +kernel
theorem dX3_tell_68 : decode cX3_tell 68 = .ok (.iload 4, 2) := by decide +kernel
theorem dX3_tell_70 : decode cX3_tell 70 = .ok (.bipush 12, 2) := by decide +kernel
theorem dX3_tell_72 : decode cX3_tell 72 = .ok (.irem, 1) := by decide +kernel
theorem dX3_tell_73 : decode cX3_tell 73 = .ok (.iaload, 1) := by decide +kernel
theorem dX3_tell_74 : decode cX3_tell 74 = .ok (.imul, 1) := by decide +kernel
theorem dX3_tell_75 : decode cX3_tell 75 = .ok (.iadd, 1) := by decide +kernel
theorem dX3_tell_76 : decode cX3_tell 76 = .ok (.bipush 100, 2) := by decide +kernel
theorem dX3_tell_78 : decode cX3_tell 78 = .ok (.iload 5, 2) := by decide +kernel
theorem dX3_tell_80 : decode cX3_tell 80 = .ok (.bipush 6, 2) := by decide +kernel
theorem dX3_tell_82 : decode cX3_tell 82 = .ok (.irem, 1) := by decide +kernel
theorem dX3_tell_83 : decode cX3_tell 83 = .ok (.imul, 1) := by decide +kernel
theorem dX3_tell_84 : decode cX3_tell 84 = .ok (.iadd, 1) := by decide +kernel
theorem dX3_tell_85 : decode cX3_tell 85 = .ok (.sipush 1000, 3) := by decide +kernel
theorem dX3_tell_88 : decode cX3_tell 88 = .ok (.iload 5, 2) := by decide +kernel
theorem dX3_tell_90 : decode cX3_tell 90 = .ok (.bipush 6, 2) := by decide +kernel
theorem dX3_tell_92 : decode cX3_tell 92 = .ok (.idiv, 1) := by decide +kernel
theorem dX3_tell_93 : decode cX3_tell 93 = .ok (.imul, 1) := by decide +kernel
theorem dX3_tell_94 : decode cX3_tell 94 = .ok (.iadd, 1) := by decide +kernel
theorem dX3_tell_95 : decode cX3_tell 95 = .ok (.iastore, 1) := by decide +kernel
theorem dX3_tell_96 : decode cX3_tell 96 = .ok (.iload_n 1, 1) := by decide +kernel
theorem dX3_tell_97 : decode cX3_tell 97 = .ok (.aload_n 0, 1) := by decide +kernel
theorem dX3_tell_98 : decode cX3_tell 98 = .ok (.getfield 24, 3) := by decide +kernel
theorem dX3_tell_101 : decode cX3_tell 101 = .ok (.iload 4, 2) := by decide +kernel
theorem dX3_tell_103 : decode cX3_tell 103 = .ok (.iaload, 1) := by decide +kernel
theorem dX3_tell_104 : decode cX3_tell 104 = .ok (.ior, 1) := by decide +kernel
theorem dX3_tell_105 : decode cX3_tell 105 = .ok (.istore_n 1, 1) := by decide +kernel
theorem dX3_tell_106 : decode cX3_tell 106 = .ok (.iload_n 2, 1) := by decide +kernel
theorem dX3_tell_107 : decode cX3_tell 107 = .ok (.aload_n 0, 1) := by decide +kernel
theorem dX3_tell_108 : decode cX3_tell 108 = .ok (.getfield 27, 3) := by decide +kernel
theorem dX3_tell_111 : decode cX3_tell 111 = .ok (.iload 4, 2) := by decide +kernel
theorem dX3_tell_113 : decode cX3_tell 113 = .ok (.iaload, 1) := by decide +kernel
theorem dX3_tell_114 : decode cX3_tell 114 = .ok (.iadd, 1) := by decide +kernel
theorem dX3_tell_115 : decode cX3_tell 115 = .ok (.istore_n 2, 1) := by decide +kernel
theorem dX3_tell_116 : decode cX3_tell 116 = .ok (.aload_n 0, 1) := by decide +kernel
theorem dX3_tell_117 : decode cX3_tell 117 = .ok (.dup, 1) := by decide +kernel
theorem dX3_tell_118 : decode cX3_tell 118 = .ok (.getfield 51, 3) := by decide +kernel
theorem dX3_tell_121 : decode cX3_tell 121 = .ok (.iconst 1, 1) := by decide +kernel
theorem dX3_tell_122 : decode cX3_tell 122 = .ok (.iadd, 1) := by decide +kernel
theorem dX3_tell_123 : decode cX3_tell 123 = .ok (.putfield 51, 3) := by decide +kernel
theorem dX3_tell_126 : decode cX3_tell 126 = .ok (.iinc 3 1, 3) := by decide +kernel
theorem dX3_tell_129 : decode cX3_tell 129 = .ok (.goto (-123), 3) := by decide +kernel
theorem dX3_tell_132 : decode cX3_tell 132 = .ok (.aload_n 0, 1) := by decide +kernel
theorem dX3_tell_133 : decode cX3_tell 133 = .ok (.aload_n 0, 1) := by decide +kernel
theorem dX3_tell_134 : decode cX3_tell 134 = .ok (.invokevirtual 123, 3) := by decide +kernel
theorem dX3_tell_137 : decode cX3_tell 137 = .ok (.iload_n 2, 1) := by decide +kernel
theorem dX3_tell_138 : decode cX3_tell 138 = .ok (.isub, 1) := by decide +kernel
theorem dX3_tell_139 : decode cX3_tell 139 = .ok (.putfield 54, 3) := by decide +kernel
theorem dX3_tell_142 : decode cX3_tell 142 = .ok (.return_, 1) := by decide +kernel
theorem dX3_bestWay_0 : decode cX3_bestWay 0 = .ok (.aload_n 0, 1) := by decide +kernel
theorem dX3_bestWay_1 : decode cX3_bestWay 1 = .ok (.iload_n 1, 1) := by decide +kernel
theorem dX3_bestWay_2 : decode cX3_bestWay 2 = .ok (.invokevirtual 127, 3) := by decide +kernel
theorem dX3_bestWay_5 : decode cX3_bestWay 5 = .ok (.istore_n 2, 1) := by decide +kernel
theorem dX3_bestWay_6 : decode cX3_bestWay 6 = .ok (.aload_n 0, 1) := by decide +kernel
theorem dX3_bestWay_7 : decode cX3_bestWay 7 = .ok (.iload_n 1, 1) := by decide +kernel
theorem dX3_bestWay_8 : decode cX3_bestWay 8 = .ok (.iconst 0, 1) := by decide +kernel
theorem dX3_bestWay_9 : decode cX3_bestWay 9 = .ok (.invokevirtual 130, 3) := by decide +kernel
theorem dX3_bestWay_12 : decode cX3_bestWay 12 = .ok (.istore_n 3, 1) := by decide +kernel
theorem dX3_bestWay_13 : decode cX3_bestWay 13 = .ok (.iconst 0, 1) := by decide +kernel
theorem dX3_bestWay_14 : decode cX3_bestWay 14 = .ok (.istore 4, 2) := by decide +kernel
theorem dX3_bestWay_16 : decode cX3_bestWay 16 = .ok (.iload 4, 2) := by decide +kernel
theorem dX3_bestWay_18 : decode cX3_bestWay 18 = .ok (.bipush 12, 2) := by decide +kernel
theorem dX3_bestWay_20 : decode cX3_bestWay 20 = .ok (.if_icmp .ge 66, 3) := by decide +kernel
theorem dX3_bestWay_23 : decode cX3_bestWay 23 = .ok (.iload_n 2, 1) := by decide +kernel
theorem dX3_bestWay_24 : decode cX3_bestWay 24 = .ok (.bipush 16, 2) := by decide +kernel
theorem dX3_bestWay_26 : decode cX3_bestWay 26 = .ok (.if_icmp .ge 60, 3) := by decide +kernel
theorem dX3_bestWay_29 : decode cX3_bestWay 29 = .ok (.iload_n 2, 1) := by decide +kernel
theorem dX3_bestWay_30 : decode cX3_bestWay 30 = .ok (.bipush 12, 2) := by decide +kernel
theorem dX3_bestWay_32 : decode cX3_bestWay 32 = .ok (.imul, 1) := by decide +kernel
theorem dX3_bestWay_33 : decode cX3_bestWay 33 = .ok (.iload 4, 2) := by decide +kernel
theorem dX3_bestWay_35 : decode cX3_bestWay 35 = .ok (.iadd, 1) := by decide +kernel
theorem dX3_bestWay_36 : decode cX3_bestWay 36 = .ok (.istore 5, 2) := by decide +kernel
theorem dX3_bestWay_38 : decode cX3_bestWay 38 = .ok (.aload_n 0, 1) := by decide +kernel
theorem dX3_bestWay_39 : decode cX3_bestWay 39 = .ok (.iload 5, 2) := by decide +kernel
theorem dX3_bestWay_41 : decode cX3_bestWay 41 = .ok (.iload_n 1, 1) := by decide +kernel
theorem dX3_bestWay_42 : decode cX3_bestWay 42 = .ok (.invokevirtual 133, 3) := by decide +kernel
theorem dX3_bestWay_45 : decode cX3_bestWay 45 = .ok (.ifCond .eq 35, 3) := by decide +kernel
theorem dX3_bestWay_48 : decode cX3_bestWay 48 = .ok (.bipush 100, 2) := by decide +kernel
theorem dX3_bestWay_50 : decode cX3_bestWay 50 = .ok (.aload_n 0, 1) := by decide +kernel
theorem dX3_bestWay_51 : decode cX3_bestWay 51 = .ok (.getfield 27, 3) := by decide +kernel
theorem dX3_bestWay_54 : decode cX3_bestWay 54 = .ok (.iload 5, 2) := by decide +kernel
theorem dX3_bestWay_56 : decode cX3_bestWay 56 = .ok (.iaload, 1) := by decide +kernel
theorem dX3_bestWay_57 : decode cX3_bestWay 57 = .ok (.isub, 1) := by decide +kernel
theorem dX3_bestWay_58 : decode cX3_bestWay 58 = .ok (.aload_n 0, 1) := by decide +kernel
theorem dX3_bestWay_59 : decode cX3_bestWay 59 = .ok (.iload_n 1, 1) := by decide +kernel
theorem dX3_bestWay_60 : decode cX3_bestWay 60 = .ok (.aload_n 0, 1) := by decide +kernel
theorem dX3_bestWay_61 : decode cX3_bestWay 61 = .ok (.getfield 24, 3) := by decide +kernel
theorem dX3_bestWay_64 : decode cX3_bestWay 64 = .ok (.iload 5, 2) := by decide +kernel
theorem dX3_bestWay_66 : decode cX3_bestWay 66 = .ok (.iaload, 1) := by decide +kernel
theorem dX3_bestWay_67 : decode cX3_bestWay 67 = .ok (.ior, 1) := by decide +kernel
theorem dX3_bestWay_68 : decode cX3_bestWay 68 = .ok (.iconst 1, 1) := by decide +kernel
theorem dX3_bestWay_69 : decode cX3_bestWay 69 = .ok (.invokevirtual 130, 3) := by decide +kernel
theorem dX3_bestWay_72 : decode cX3_bestWay 72 = .ok (.iadd, 1) := by decide +kernel
theorem dX3_bestWay_73 : decode cX3_bestWay 73 = .ok (.iload_n 3, 1) := by decide +kernel
theorem dX3_bestWay_74 : decode cX3_bestWay 74 = .ok (.if_icmp .ne 6, 3) := by decide +kernel
theorem dX3_bestWay_77 : decode cX3_bestWay 77 = .ok (.iload 5, 2) := by decide +kernel
theorem dX3_bestWay_79 : decode cX3_bestWay 79 = .ok (.ireturn, 1) := by decide +kernel
theorem dX3_bestWay_80 : decode cX3_bestWay 80 = .ok (.iinc 4 1, 3) := by decide +kernel
theorem dX3_bestWay_83 : decode cX3_bestWay 83 = .ok (.goto (-67), 3) := by decide +kernel
theorem dX3_bestWay_86 : decode cX3_bestWay 86 = .ok (.iconst (-1), 1) := by decide +kernel
theorem dX3_bestWay_87 : decode cX3_bestWay 87 = .ok (.ireturn, 1) := by decide +kernel
theorem dX3_firstFree_0 : decode cX3_firstFree 0 = .ok (.iload_n 1, 1) := by decide +kernel
theorem dX3_firstFree_1 : decode cX3_firstFree 1 = .ok (.iload_n 1, 1) := by decide +kernel
theorem dX3_firstFree_2 : decode cX3_firstFree 2 = .ok (.iconst 1, 1) := by decide +kernel
theorem dX3_firstFree_3 : decode cX3_firstFree 3 = .ok (.iadd, 1) := by decide +kernel
theorem dX3_firstFree_4 : decode cX3_firstFree 4 = .ok (.iconst (-1), 1) := by decide +kernel
theorem dX3_firstFree_5 : decode cX3_firstFree 5 = .ok (.ixor, 1) := by decide +kernel
theorem dX3_firstFree_6 : decode cX3_firstFree 6 = .ok (.iand, 1) := by decide +kernel
theorem dX3_firstFree_7 : decode cX3_firstFree 7 = .ok (.invokestatic 137, 3) := by decide +kernel
theorem dX3_firstFree_10 : decode cX3_firstFree 10 = .ok (.ireturn, 1) := by decide +kernel
theorem dX3_isFree_0 : decode cX3_isFree 0 = .ok (.aload_n 0, 1) := by decide +kernel
theorem dX3_isFree_1 : decode cX3_isFree 1 = .ok (.getfield 24, 3) := by decide +kernel
theorem dX3_isFree_4 : decode cX3_isFree 4 = .ok (.iload_n 1, 1) := by decide +kernel
theorem dX3_isFree_5 : decode cX3_isFree 5 = .ok (.iaload, 1) := by decide +kernel
theorem dX3_isFree_6 : decode cX3_isFree 6 = .ok (.ifCond .eq 18, 3) := by decide +kernel
theorem dX3_isFree_9 : decode cX3_isFree 9 = .ok (.aload_n 0, 1) := by decide +kernel
theorem dX3_isFree_10 : decode cX3_isFree 10 = .ok (.getfield 24, 3) := by decide +kernel
theorem dX3_isFree_13 : decode cX3_isFree 13 = .ok (.iload_n 1, 1) := by decide +kernel
theorem dX3_isFree_14 : decode cX3_isFree 14 = .ok (.iaload, 1) := by decide +kernel
theorem dX3_isFree_15 : decode cX3_isFree 15 = .ok (.iload_n 2, 1) := by decide +kernel
theorem dX3_isFree_16 : decode cX3_isFree 16 = .ok (.iand, 1) := by decide +kernel
theorem dX3_isFree_17 : decode cX3_isFree 17 = .ok (.ifCond .ne 7, 3) := by decide +kernel
theorem dX3_isFree_20 : decode cX3_isFree 20 = .ok (.iconst 1, 1) := by decide +kernel
theorem dX3_isFree_21 : decode cX3_isFree 21 = .ok (.goto 4, 3) := by decide +kernel
theorem dX3_isFree_24 : decode cX3_isFree 24 = .ok (.iconst 0, 1) := by decide +kernel
theorem dX3_isFree_25 : decode cX3_isFree 25 = .ok (.ireturn, 1) := by decide +kernel
theorem dX3_cheapest_0 : decode cX3_cheapest 0 = .ok (.aload_n 0, 1) := by decide +kernel
theorem dX3_cheapest_1 : decode cX3_cheapest 1 = .ok (.iload_n 1, 1) := by decide +kernel
theorem dX3_cheapest_2 : decode cX3_cheapest 2 = .ok (.invokevirtual 127, 3) := by decide +kernel
theorem dX3_cheapest_5 : decode cX3_cheapest 5 = .ok (.istore_n 3, 1) := by decide +kernel
theorem dX3_cheapest_6 : decode cX3_cheapest 6 = .ok (.iload_n 3, 1) := by decide +kernel
theorem dX3_cheapest_7 : decode cX3_cheapest 7 = .ok (.aload_n 0, 1) := by decide +kernel
theorem dX3_cheapest_8 : decode cX3_cheapest 8 = .ok (.getfield 63, 3) := by decide +kernel
theorem dX3_cheapest_11 : decode cX3_cheapest 11 = .ok (.if_icmp .lt 5, 3) := by decide +kernel
theorem dX3_cheapest_14 : decode cX3_cheapest 14 = .ok (.iconst 0, 1) := by decide +kernel
theorem dX3_cheapest_15 : decode cX3_cheapest 15 = .ok (.ireturn, 1) := by decide +kernel
theorem dX3_cheapest_16 : decode cX3_cheapest 16 = .ok (.iload_n 2, 1) := by decide +kernel
theorem dX3_cheapest_17 : decode cX3_cheapest 17 = .ok (.bipush 16, 2) := by decide +kernel
theorem dX3_cheapest_19 : decode cX3_cheapest 19 = .ok (.if_icmp .ge 9, 3) := by decide +kernel
theorem dX3_cheapest_22 : decode cX3_cheapest 22 = .ok (.iload_n 3, 1) := by decide +kernel
theorem dX3_cheapest_23 : decode cX3_cheapest 23 = .ok (.bipush 16, 2) := by decide +kernel
theorem dX3_cheapest_25 : decode cX3_cheapest 25 = .ok (.if_icmp .lt 6, 3) := by decide +kernel
theorem dX3_cheapest_28 : decode cX3_cheapest 28 = .ok (.ldc 142, 2) := by decide +kernel
theorem dX3_cheapest_30 : decode cX3_cheapest 30 = .ok (.ireturn, 1) := by decide +kernel
theorem dX3_cheapest_31 : decode cX3_cheapest 31 = .ok (.aload_n 0, 1) := by decide +kernel
theorem dX3_cheapest_32 : decode cX3_cheapest 32 = .ok (.iload_n 1, 1) := by decide +kernel
theorem dX3_cheapest_33 : decode cX3_cheapest 33 = .ok (.invokevirtual 143, 3) := by decide +kernel
theorem dX3_cheapest_36 : decode cX3_cheapest 36 = .ok (.istore 4, 2) := by decide +kernel
theorem dX3_cheapest_38 : decode cX3_cheapest 38 = .ok (.iload 4, 2) := by decide +kernel
theorem dX3_cheapest_40 : decode cX3_cheapest 40 = .ok (.ifCond .lt 21, 3) := by decide +kernel
theorem dX3_cheapest_43 : decode cX3_cheapest 43 = .ok (.aload_n 0, 1) := by decide +kernel
theorem dX3_cheapest_44 : decode cX3_cheapest 44 = .ok (.getfield 30, 3) := by decide +kernel
theorem dX3_cheapest_47 : decode cX3_cheapest 47 = .ok (.iload 4, 2) := by decide +kernel
theorem dX3_cheapest_49 : decode cX3_cheapest 49 = .ok (.iaload, 1) := by decide +kernel
theorem dX3_cheapest_50 : decode cX3_cheapest 50 = .ok (.ifCond .eq 11, 3) := by decide +kernel
theorem dX3_cheapest_53 : decode cX3_cheapest 53 = .ok (.aload_n 0, 1) := by decide +kernel
theorem dX3_cheapest_54 : decode cX3_cheapest 54 = .ok (.getfield 33, 3) := by decide +kernel
theorem dX3_cheapest_57 : decode cX3_cheapest 57 = .ok (.iload 4, 2) := by decide +kernel
theorem dX3_cheapest_59 : decode cX3_cheapest 59 = .ok (.iaload, 1) := by decide +kernel
theorem dX3_cheapest_60 : decode cX3_cheapest 60 = .ok (.ireturn, 1) := by decide +kernel
theorem dX3_cheapest_61 : decode cX3_cheapest 61 = .ok (.ldc 142, 2) := by decide +kernel
theorem dX3_cheapest_63 : decode cX3_cheapest 63 = .ok (.istore 5, 2) := by decide +kernel
theorem dX3_cheapest_65 : decode cX3_cheapest 65 = .ok (.iconst 0, 1) := by decide +kernel
theorem dX3_cheapest_66 : decode cX3_cheapest 66 = .ok (.istore 6, 2) := by decide +kernel
theorem dX3_cheapest_68 : decode cX3_cheapest 68 = .ok (.iload 6, 2) := by decide +kernel
theorem dX3_cheapest_70 : decode cX3_cheapest 70 = .ok (.bipush 12, 2) := by decide +kernel
theorem dX3_cheapest_72 : decode cX3_cheapest 72 = .ok (.if_icmp .ge 66, 3) := by decide +kernel
theorem dX3_cheapest_75 : decode cX3_cheapest 75 = .ok (.iload_n 3, 1) := by decide +kernel
theorem dX3_cheapest_76 : decode cX3_cheapest 76 = .ok (.bipush 12, 2) := by decide +kernel
theorem dX3_cheapest_78 : decode cX3_cheapest 78 = .ok (.imul, 1) := by decide +kernel
theorem dX3_cheapest_79 : decode cX3_cheapest 79 = .ok (.iload 6, 2) := by decide +kernel
theorem dX3_cheapest_81 : decode cX3_cheapest 81 = .ok (.iadd, 1) := by decide +kernel
theorem dX3_cheapest_82 : decode cX3_cheapest 82 = .ok (.istore 7, 2) := by decide +kernel
theorem dX3_cheapest_84 : decode cX3_cheapest 84 = .ok (.aload_n 0, 1) := by decide +kernel
theorem dX3_cheapest_85 : decode cX3_cheapest 85 = .ok (.iload 7, 2) := by decide +kernel
theorem dX3_cheapest_87 : decode cX3_cheapest 87 = .ok (.iload_n 1, 1) := by decide +kernel
theorem dX3_cheapest_88 : decode cX3_cheapest 88 = .ok (.invokevirtual 133, 3) := by decide +kernel
theorem dX3_cheapest_91 : decode cX3_cheapest 91 = .ok (.ifCond .eq 41, 3) := by decide +kernel
theorem dX3_cheapest_94 : decode cX3_cheapest 94 = .ok (.aload_n 0, 1) := by decide +kernel
theorem dX3_cheapest_95 : decode cX3_cheapest 95 = .ok (.iload_n 1, 1) := by decide +kernel
theorem dX3_cheapest_96 : decode cX3_cheapest 96 = .ok (.aload_n 0, 1) := by decide +kernel
theorem dX3_cheapest_97 : decode cX3_cheapest 97 = .ok (.getfield 24, 3) := by decide +kernel
theorem dX3_cheapest_100 : decode cX3_cheapest 100 = .ok (.iload 7, 2) := by decide +kernel
theorem dX3_cheapest_102 : decode cX3_cheapest 102 = .ok (.iaload, 1) := by decide +kernel
theorem dX3_cheapest_103 : decode cX3_cheapest 103 = .ok (.ior, 1) := by decide +kernel
theorem dX3_cheapest_104 : decode cX3_cheapest 104 = .ok (.iload_n 2, 1) := by decide +kernel
theorem dX3_cheapest_105 : decode cX3_cheapest 105 = .ok (.iconst 1, 1) := by decide +kernel
theorem dX3_cheapest_106 : decode cX3_cheapest 106 = .ok (.iadd, 1) := by decide +kernel
theorem dX3_cheapest_107 : decode cX3_cheapest 107 = .ok (.invokevirtual 130, 3) := by decide +kernel
theorem dX3_cheapest_110 : decode cX3_cheapest 110 = .ok (.istore 8, 2) := by decide +kernel
theorem dX3_cheapest_112 : decode cX3_cheapest 112 = .ok (.iload 5, 2) := by decide +kernel
theorem dX3_cheapest_114 : decode cX3_cheapest 114 = .ok (.bipush 100, 2) := by decide +kernel
theorem dX3_cheapest_116 : decode cX3_cheapest 116 = .ok (.aload_n 0, 1) := by decide +kernel
theorem dX3_cheapest_117 : decode cX3_cheapest 117 = .ok (.getfield 27, 3) := by decide +kernel
theorem dX3_cheapest_120 : decode cX3_cheapest 120 = .ok (.iload 7, 2) := by decide +kernel
theorem dX3_cheapest_122 : decode cX3_cheapest 122 = .ok (.iaload, 1) := by decide +kernel
theorem dX3_cheapest_123 : decode cX3_cheapest 123 = .ok (.isub, 1) := by decide +kernel
theorem dX3_cheapest_124 : decode cX3_cheapest 124 = .ok (.iload 8, 2) := by decide +kernel
theorem dX3_cheapest_126 : decode cX3_cheapest 126 = .ok (.iadd, 1) := by decide +kernel
theorem dX3_cheapest_127 : decode cX3_cheapest 127 = .ok (.invokestatic 146, 3) := by decide +kernel
theorem dX3_cheapest_130 : decode cX3_cheapest 130 = .ok (.istore 5, 2) := by decide +kernel
theorem dX3_cheapest_132 : decode cX3_cheapest 132 = .ok (.iinc 6 1, 3) := by decide +kernel
theorem dX3_cheapest_135 : decode cX3_cheapest 135 = .ok (.goto (-67), 3) := by decide +kernel
theorem dX3_cheapest_138 : decode cX3_cheapest 138 = .ok (.aload_n 0, 1) := by decide +kernel
theorem dX3_cheapest_139 : decode cX3_cheapest 139 = .ok (.iload_n 1, 1) := by decide +kernel
theorem dX3_cheapest_140 : decode cX3_cheapest 140 = .ok (.iload 5, 2) := by decide +kernel
theorem dX3_cheapest_142 : decode cX3_cheapest 142 = .ok (.invokevirtual 151, 3) := by decide +kernel
theorem dX3_cheapest_145 : decode cX3_cheapest 145 = .ok (.iload 5, 2) := by decide +kernel
theorem dX3_cheapest_147 : decode cX3_cheapest 147 = .ok (.ireturn, 1) := by decide +kernel
theorem dX3_slotOf_0 : decode cX3_slotOf 0 = .ok (.iload_n 1, 1) := by decide +kernel
theorem dX3_slotOf_1 : decode cX3_slotOf 1 = .ok (.ldc 154, 2) := by decide +kernel
theorem dX3_slotOf_3 : decode cX3_slotOf 3 = .ok (.imul, 1) := by decide +kernel
theorem dX3_slotOf_4 : decode cX3_slotOf 4 = .ok (.bipush 21, 2) := by decide +kernel
theorem dX3_slotOf_6 : decode cX3_slotOf 6 = .ok (.iushr, 1) := by decide +kernel
theorem dX3_slotOf_7 : decode cX3_slotOf 7 = .ok (.istore_n 2, 1) := by decide +kernel
theorem dX3_slotOf_8 : decode cX3_slotOf 8 = .ok (.iconst 0, 1) := by decide +kernel
theorem dX3_slotOf_9 : decode cX3_slotOf 9 = .ok (.istore_n 3, 1) := by decide +kernel
theorem dX3_slotOf_10 : decode cX3_slotOf 10 = .ok (.iload_n 3, 1) := by decide +kernel
theorem dX3_slotOf_11 : decode cX3_slotOf 11 = .ok (.sipush 2048, 3) := by decide +kernel
theorem dX3_slotOf_14 : decode cX3_slotOf 14 = .ok (.if_icmp .ge 44, 3) := by decide +kernel
theorem dX3_slotOf_17 : decode cX3_slotOf 17 = .ok (.iload_n 2, 1) := by decide +kernel
theorem dX3_slotOf_18 : decode cX3_slotOf 18 = .ok (.iload_n 3, 1) := by decide +kernel
theorem dX3_slotOf_19 : decode cX3_slotOf 19 = .ok (.iadd, 1) := by decide +kernel
theorem dX3_slotOf_20 : decode cX3_slotOf 20 = .ok (.sipush 2047, 3) := by decide +kernel
theorem dX3_slotOf_23 : decode cX3_slotOf 23 = .ok (.iand, 1) := by decide +kernel
theorem dX3_slotOf_24 : decode cX3_slotOf 24 = .ok (.istore 4, 2) := by decide +kernel
theorem dX3_slotOf_26 : decode cX3_slotOf 26 = .ok (.aload_n 0, 1) := by decide +kernel
theorem dX3_slotOf_27 : decode cX3_slotOf 27 = .ok (.getfield 30, 3) := by decide +kernel
theorem dX3_slotOf_30 : decode cX3_slotOf 30 = .ok (.iload 4, 2) := by decide +kernel
theorem dX3_slotOf_32 : decode cX3_slotOf 32 = .ok (.iaload, 1) := by decide +kernel
theorem dX3_slotOf_33 : decode cX3_slotOf 33 = .ok (.ifCond .eq 16, 3) := by decide +kernel
theorem dX3_slotOf_36 : decode cX3_slotOf 36 = .ok (.aload_n 0, 1) := by decide +kernel
theorem dX3_slotOf_37 : decode cX3_slotOf 37 = .ok (.getfield 30, 3) := by decide +kernel
theorem dX3_slotOf_40 : decode cX3_slotOf 40 = .ok (.iload 4, 2) := by decide +kernel
theorem dX3_slotOf_42 : decode cX3_slotOf 42 = .ok (.iaload, 1) := by decide +kernel
theorem dX3_slotOf_43 : decode cX3_slotOf 43 = .ok (.iload_n 1, 1) := by decide +kernel
theorem dX3_slotOf_44 : decode cX3_slotOf 44 = .ok (.iconst 1, 1) := by decide +kernel
theorem dX3_slotOf_45 : decode cX3_slotOf 45 = .ok (.iadd, 1) := by decide +kernel
theorem dX3_slotOf_46 : decode cX3_slotOf 46 = .ok (.if_icmp .ne 6, 3) := by decide +kernel
theorem dX3_slotOf_49 : decode cX3_slotOf 49 = .ok (.iload 4, 2) := by decide +kernel
theorem dX3_slotOf_51 : decode cX3_slotOf 51 = .ok (.ireturn, 1) := by decide +kernel
theorem dX3_slotOf_52 : decode cX3_slotOf 52 = .ok (.iinc 3 1, 3) := by decide +kernel
theorem dX3_slotOf_55 : decode cX3_slotOf 55 = .ok (.goto (-45), 3) := by decide +kernel
theorem dX3_slotOf_58 : decode cX3_slotOf 58 = .ok (.iconst (-1), 1) := by decide +kernel
theorem dX3_slotOf_59 : decode cX3_slotOf 59 = .ok (.ireturn, 1) := by decide +kernel
theorem dX3_keep_0 : decode cX3_keep 0 = .ok (.aload_n 0, 1) := by decide +kernel
theorem dX3_keep_1 : decode cX3_keep 1 = .ok (.iload_n 1, 1) := by decide +kernel
theorem dX3_keep_2 : decode cX3_keep 2 = .ok (.invokevirtual 143, 3) := by decide +kernel
theorem dX3_keep_5 : decode cX3_keep 5 = .ok (.istore_n 3, 1) := by decide +kernel
theorem dX3_keep_6 : decode cX3_keep 6 = .ok (.iload_n 3, 1) := by decide +kernel
theorem dX3_keep_7 : decode cX3_keep 7 = .ok (.ifCond .lt 19, 3) := by decide +kernel
theorem dX3_keep_10 : decode cX3_keep 10 = .ok (.aload_n 0, 1) := by decide +kernel
theorem dX3_keep_11 : decode cX3_keep 11 = .ok (.getfield 30, 3) := by decide +kernel
theorem dX3_keep_14 : decode cX3_keep 14 = .ok (.iload_n 3, 1) := by decide +kernel
theorem dX3_keep_15 : decode cX3_keep 15 = .ok (.iload_n 1, 1) := by decide +kernel
theorem dX3_keep_16 : decode cX3_keep 16 = .ok (.iconst 1, 1) := by decide +kernel
theorem dX3_keep_17 : decode cX3_keep 17 = .ok (.iadd, 1) := by decide +kernel
theorem dX3_keep_18 : decode cX3_keep 18 = .ok (.iastore, 1) := by decide +kernel
theorem dX3_keep_19 : decode cX3_keep 19 = .ok (.aload_n 0, 1) := by decide +kernel
theorem dX3_keep_20 : decode cX3_keep 20 = .ok (.getfield 33, 3) := by decide +kernel
theorem dX3_keep_23 : decode cX3_keep 23 = .ok (.iload_n 3, 1) := by decide +kernel
theorem dX3_keep_24 : decode cX3_keep 24 = .ok (.iload_n 2, 1) := by decide +kernel
theorem dX3_keep_25 : decode cX3_keep 25 = .ok (.iastore, 1) := by decide +kernel
theorem dX3_keep_26 : decode cX3_keep 26 = .ok (.return_, 1) := by decide +kernel
theorem dX3_seamsOfSingles_0 : decode cX3_seamsOfSingles 0 = .ok (.iconst 0, 1) := by decide +kernel
theorem dX3_seamsOfSingles_1 : decode cX3_seamsOfSingles 1 = .ok (.istore_n 1, 1) := by decide +kernel
theorem dX3_seamsOfSingles_2 : decode cX3_seamsOfSingles 2 = .ok (.iconst 0, 1) := by decide +kernel
theorem dX3_seamsOfSingles_3 : decode cX3_seamsOfSingles 3 = .ok (.istore_n 2, 1) := by decide +kernel
theorem dX3_seamsOfSingles_4 : decode cX3_seamsOfSingles 4 = .ok (.iload_n 2, 1) := by decide +kernel
theorem dX3_seamsOfSingles_5 : decode cX3_seamsOfSingles 5 = .ok (.bipush 36, 2) := by decide +kernel
theorem dX3_seamsOfSingles_7 : decode cX3_seamsOfSingles 7 = .ok (.if_icmp .ge 68, 3) := by decide +kernel
theorem dX3_seamsOfSingles_10 : decode cX3_seamsOfSingles 10 = .ok (.iload_n 2, 1) := by decide +kernel
theorem dX3_seamsOfSingles_11 : decode cX3_seamsOfSingles 11 = .ok (.bipush 6, 2) := by decide +kernel
theorem dX3_seamsOfSingles_13 : decode cX3_seamsOfSingles 13 = .ok (.irem, 1) := by decide +kernel
theorem dX3_seamsOfSingles_14 : decode cX3_seamsOfSingles 14 = .ok (.istore_n 3, 1) := by decide +kernel
theorem dX3_seamsOfSingles_15 : decode cX3_seamsOfSingles 15 = .ok (.iload_n 2, 1) := by decide +kernel
theorem dX3_seamsOfSingles_16 : decode cX3_seamsOfSingles 16 = .ok (.bipush 6, 2) := by decide +kernel
theorem dX3_seamsOfSingles_18 : decode cX3_seamsOfSingles 18 = .ok (.idiv, 1) := by decide +kernel
theorem dX3_seamsOfSingles_19 : decode cX3_seamsOfSingles 19 = .ok (.istore 4, 2) := by decide +kernel
theorem dX3_seamsOfSingles_21 : decode cX3_seamsOfSingles 21 = .ok (.aload_n 0, 1) := by decide +kernel
theorem dX3_seamsOfSingles_22 : decode cX3_seamsOfSingles 22 = .ok (.iload_n 3, 1) := by decide +kernel
theorem dX3_seamsOfSingles_23 : decode cX3_seamsOfSingles 23 = .ok (.iload 4, 2) := by decide +kernel
theorem dX3_seamsOfSingles_25 : decode cX3_seamsOfSingles 25 = .ok (.iload_n 3, 1) := by decide +kernel
theorem dX3_seamsOfSingles_26 : decode cX3_seamsOfSingles 26 = .ok (.iconst 1, 1) := by decide +kernel
theorem dX3_seamsOfSingles_27 : decode cX3_seamsOfSingles 27 = .ok (.iadd, 1) := by decide +kernel
theorem dX3_seamsOfSingles_28 : decode cX3_seamsOfSingles 28 = .ok (.iload 4, 2) := by decide +kernel
theorem dX3_seamsOfSingles_30 : decode cX3_seamsOfSingles 30 = .ok (.invokevirtual 155, 3) := by decide +kernel
theorem dX3_seamsOfSingles_33 : decode cX3_seamsOfSingles 33 = .ok (.ifCond .eq 12, 3) := by decide +kernel
theorem dX3_seamsOfSingles_36 : decode cX3_seamsOfSingles 36 = .ok (.iload_n 1, 1) := by decide +kernel
theorem dX3_seamsOfSingles_37 : decode cX3_seamsOfSingles 37 = .ok (.aload_n 0, 1) := by decide +kernel
theorem dX3_seamsOfSingles_38 : decode cX3_seamsOfSingles 38 = .ok (.getfield 18, 3) := by decide +kernel
theorem dX3_seamsOfSingles_41 : decode cX3_seamsOfSingles 41 = .ok (.iload_n 2, 1) := by decide +kernel
theorem dX3_seamsOfSingles_42 : decode cX3_seamsOfSingles 42 = .ok (.iaload, 1) := by decide +kernel
theorem dX3_seamsOfSingles_43 : decode cX3_seamsOfSingles 43 = .ok (.iadd, 1) := by decide +kernel
theorem dX3_seamsOfSingles_44 : decode cX3_seamsOfSingles 44 = .ok (.istore_n 1, 1) := by decide +kernel
theorem dX3_seamsOfSingles_45 : decode cX3_seamsOfSingles 45 = .ok (.aload_n 0, 1) := by decide +kernel
theorem dX3_seamsOfSingles_46 : decode cX3_seamsOfSingles 46 = .ok (.iload_n 3, 1) := by decide +kernel
theorem dX3_seamsOfSingles_47 : decode cX3_seamsOfSingles 47 = .ok (.iload 4, 2) := by decide +kernel
theorem dX3_seamsOfSingles_49 : decode cX3_seamsOfSingles 49 = .ok (.iload_n 3, 1) := by decide +kernel
theorem dX3_seamsOfSingles_50 : decode cX3_seamsOfSingles 50 = .ok (.iload 4, 2) := by decide +kernel
theorem dX3_seamsOfSingles_52 : decode cX3_seamsOfSingles 52 = .ok (.iconst 1, 1) := by decide +kernel
theorem dX3_seamsOfSingles_53 : decode cX3_seamsOfSingles 53 = .ok (.iadd, 1) := by decide +kernel
theorem dX3_seamsOfSingles_54 : decode cX3_seamsOfSingles 54 = .ok (.invokevirtual 155, 3) := by decide +kernel
theorem dX3_seamsOfSingles_57 : decode cX3_seamsOfSingles 57 = .ok (.ifCond .eq 12, 3) := by decide +kernel
theorem dX3_seamsOfSingles_60 : decode cX3_seamsOfSingles 60 = .ok (.iload_n 1, 1) := by decide +kernel
theorem dX3_seamsOfSingles_61 : decode cX3_seamsOfSingles 61 = .ok (.aload_n 0, 1) := by decide +kernel
theorem dX3_seamsOfSingles_62 : decode cX3_seamsOfSingles 62 = .ok (.getfield 21, 3) := by decide +kernel
theorem dX3_seamsOfSingles_65 : decode cX3_seamsOfSingles 65 = .ok (.iload_n 2, 1) := by decide +kernel
theorem dX3_seamsOfSingles_66 : decode cX3_seamsOfSingles 66 = .ok (.iaload, 1) := by decide +kernel
theorem dX3_seamsOfSingles_67 : decode cX3_seamsOfSingles 67 = .ok (.iadd, 1) := by decide +kernel
theorem dX3_seamsOfSingles_68 : decode cX3_seamsOfSingles 68 = .ok (.istore_n 1, 1) := by decide +kernel
theorem dX3_seamsOfSingles_69 : decode cX3_seamsOfSingles 69 = .ok (.iinc 2 1, 3) := by decide +kernel
theorem dX3_seamsOfSingles_72 : decode cX3_seamsOfSingles 72 = .ok (.goto (-68), 3) := by decide +kernel
theorem dX3_seamsOfSingles_75 : decode cX3_seamsOfSingles 75 = .ok (.iload_n 1, 1) := by decide +kernel
theorem dX3_seamsOfSingles_76 : decode cX3_seamsOfSingles 76 = .ok (.ireturn, 1) := by decide +kernel
theorem dX3_isNewPair_0 : decode cX3_isNewPair 0 = .ok (.aload_n 0, 1) := by decide +kernel
theorem dX3_isNewPair_1 : decode cX3_isNewPair 1 = .ok (.iload_n 1, 1) := by decide +kernel
theorem dX3_isNewPair_2 : decode cX3_isNewPair 2 = .ok (.iload_n 2, 1) := by decide +kernel
theorem dX3_isNewPair_3 : decode cX3_isNewPair 3 = .ok (.invokevirtual 116, 3) := by decide +kernel
theorem dX3_isNewPair_6 : decode cX3_isNewPair 6 = .ok (.ifCond .lt 7, 3) := by decide +kernel
theorem dX3_isNewPair_9 : decode cX3_isNewPair 9 = .ok (.iconst 1, 1) := by decide +kernel
theorem dX3_isNewPair_10 : decode cX3_isNewPair 10 = .ok (.goto 4, 3) := by decide +kernel
theorem dX3_isNewPair_13 : decode cX3_isNewPair 13 = .ok (.iconst 0, 1) := by decide +kernel
theorem dX3_isNewPair_14 : decode cX3_isNewPair 14 = .ok (.istore 5, 2) := by decide +kernel
theorem dX3_isNewPair_16 : decode cX3_isNewPair 16 = .ok (.aload_n 0, 1) := by decide +kernel
theorem dX3_isNewPair_17 : decode cX3_isNewPair 17 = .ok (.iload_n 3, 1) := by decide +kernel
theorem dX3_isNewPair_18 : decode cX3_isNewPair 18 = .ok (.iload 4, 2) := by decide +kernel
theorem dX3_isNewPair_20 : decode cX3_isNewPair 20 = .ok (.invokevirtual 116, 3) := by decide +kernel
theorem dX3_isNewPair_23 : decode cX3_isNewPair 23 = .ok (.ifCond .lt 7, 3) := by decide +kernel
theorem dX3_isNewPair_26 : decode cX3_isNewPair 26 = .ok (.iconst 1, 1) := by decide +kernel
theorem dX3_isNewPair_27 : decode cX3_isNewPair 27 = .ok (.goto 4, 3) := by decide +kernel
theorem dX3_isNewPair_30 : decode cX3_isNewPair 30 = .ok (.iconst 0, 1) := by decide +kernel
theorem dX3_isNewPair_31 : decode cX3_isNewPair 31 = .ok (.istore 6, 2) := by decide +kernel
theorem dX3_isNewPair_33 : decode cX3_isNewPair 33 = .ok (.iload 5, 2) := by decide +kernel
theorem dX3_isNewPair_35 : decode cX3_isNewPair 35 = .ok (.ifCond .ne 8, 3) := by decide +kernel
theorem dX3_isNewPair_38 : decode cX3_isNewPair 38 = .ok (.iload 6, 2) := by decide +kernel
theorem dX3_isNewPair_40 : decode cX3_isNewPair 40 = .ok (.ifCond .eq 52, 3) := by decide +kernel
theorem dX3_isNewPair_43 : decode cX3_isNewPair 43 = .ok (.iload 5, 2) := by decide +kernel
theorem dX3_isNewPair_45 : decode cX3_isNewPair 45 = .ok (.ifCond .ne 20, 3) := by decide +kernel
theorem dX3_isNewPair_48 : decode cX3_isNewPair 48 = .ok (.aload_n 0, 1) := by decide +kernel
theorem dX3_isNewPair_49 : decode cX3_isNewPair 49 = .ok (.getfield 43, 3) := by decide +kernel
theorem dX3_isNewPair_52 : decode cX3_isNewPair 52 = .ok (.iload_n 1, 1) := by decide +kernel
theorem dX3_isNewPair_53 : decode cX3_isNewPair 53 = .ok (.iload_n 2, 1) := by decide +kernel
theorem dX3_isNewPair_54 : decode cX3_isNewPair 54 = .ok (.aload_n 0, 1) := by decide +kernel
theorem dX3_isNewPair_55 : decode cX3_isNewPair 55 = .ok (.getfield 57, 3) := by decide +kernel
theorem dX3_isNewPair_58 : decode cX3_isNewPair 58 = .ok (.invokevirtual 87, 3) := by decide +kernel
theorem dX3_isNewPair_61 : decode cX3_isNewPair 61 = .ok (.iconst (-1), 1) := by decide +kernel
theorem dX3_isNewPair_62 : decode cX3_isNewPair 62 = .ok (.if_icmp .eq 30, 3) := by decide +kernel
theorem dX3_isNewPair_65 : decode cX3_isNewPair 65 = .ok (.iload 6, 2) := by decide +kernel
theorem dX3_isNewPair_67 : decode cX3_isNewPair 67 = .ok (.ifCond .ne 21, 3) := by decide +kernel
theorem dX3_isNewPair_70 : decode cX3_isNewPair 70 = .ok (.aload_n 0, 1) := by decide +kernel
theorem dX3_isNewPair_71 : decode cX3_isNewPair 71 = .ok (.getfield 43, 3) := by decide +kernel
theorem dX3_isNewPair_74 : decode cX3_isNewPair 74 = .ok (.iload_n 3, 1) := by decide +kernel
theorem dX3_isNewPair_75 : decode cX3_isNewPair 75 = .ok (.iload 4, 2) := by decide +kernel
theorem dX3_isNewPair_77 : decode cX3_isNewPair 77 = .ok (.aload_n 0, 1) := by decide +kernel
theorem dX3_isNewPair_78 : decode cX3_isNewPair 78 = .ok (.getfield 57, 3) := by decide +kernel
theorem dX3_isNewPair_81 : decode cX3_isNewPair 81 = .ok (.invokevirtual 87, 3) := by decide +kernel
theorem dX3_isNewPair_84 : decode cX3_isNewPair 84 = .ok (.iconst (-1), 1) := by decide +kernel
theorem dX3_isNewPair_85 : decode cX3_isNewPair 85 = .ok (.if_icmp .eq 7, 3) := by decide +kernel
theorem dX3_isNewPair_88 : decode cX3_isNewPair 88 = .ok (.iconst 1, 1) := by decide +kernel
theorem dX3_isNewPair_89 : decode cX3_isNewPair 89 = .ok (.goto 4, 3) := by decide +kernel
theorem dX3_isNewPair_92 : decode cX3_isNewPair 92 = .ok (.iconst 0, 1) := by decide +kernel
theorem dX3_isNewPair_93 : decode cX3_isNewPair 93 = .ok (.ireturn, 1) := by decide +kernel
theorem dX4_init_0 : decode cX4_init 0 = .ok (.aload_n 0, 1) := by decide +kernel
theorem dX4_init_1 : decode cX4_init 1 = .ok (.invokespecial 3, 3) := by decide +kernel
theorem dX4_init_4 : decode cX4_init 4 = .ok (.aload_n 0, 1) := by decide +kernel
theorem dX4_init_5 : decode cX4_init 5 = .ok (.bipush 7, 2) := by decide +kernel
theorem dX4_init_7 : decode cX4_init 7 = .ok (.newarray .int, 2) := by decide +kernel
theorem dX4_init_9 : decode cX4_init 9 = .ok (.putfield 9, 3) := by decide +kernel
theorem dX4_init_12 : decode cX4_init 12 = .ok (.aload_n 0, 1) := by decide +kernel
theorem dX4_init_13 : decode cX4_init 13 = .ok (.bipush 7, 2) := by decide +kernel
theorem dX4_init_15 : decode cX4_init 15 = .ok (.newarray .int, 2) := by decide +kernel
theorem dX4_init_17 : decode cX4_init 17 = .ok (.putfield 15, 3) := by decide +kernel
theorem dX4_init_20 : decode cX4_init 20 = .ok (.aload_n 0, 1) := by decide +kernel
theorem dX4_init_21 : decode cX4_init 21 = .ok (.bipush 8, 2) := by decide +kernel
theorem dX4_init_23 : decode cX4_init 23 = .ok (.putfield 18, 3) := by decide +kernel
theorem dX4_init_26 : decode cX4_init 26 = .ok (.aload_n 0, 1) := by decide +kernel
theorem dX4_init_27 : decode cX4_init 27 = .ok (.aload_n 1, 1) := by decide +kernel
theorem dX4_init_28 : decode cX4_init 28 = .ok (.putfield 22, 3) := by decide +kernel
theorem dX4_init_31 : decode cX4_init 31 = .ok (.return_, 1) := by decide +kernel
theorem dX4_currentGrip_0 : decode cX4_currentGrip 0 = .ok (.aload_n 0, 1) := by decide +kernel
theorem dX4_currentGrip_1 : decode cX4_currentGrip 1 = .ok (.getfield 18, 3) := by decide +kernel
theorem dX4_currentGrip_4 : decode cX4_currentGrip 4 = .ok (.ireturn, 1) := by decide +kernel
theorem dX4_changeGrip_0 : decode cX4_changeGrip 0 = .ok (.aload_n 0, 1) := by decide +kernel
theorem dX4_changeGrip_1 : decode cX4_changeGrip 1 = .ok (.getfield 18, 3) := by decide +kernel
theorem dX4_changeGrip_4 : decode cX4_changeGrip 4 = .ok (.istore_n 2, 1) := by decide +kernel
theorem dX4_changeGrip_5 : decode cX4_changeGrip 5 = .ok (.aload_n 0, 1) := by decide +kernel
theorem dX4_changeGrip_6 : decode cX4_changeGrip 6 = .ok (.iload_n 1, 1) := by decide +kernel
theorem dX4_changeGrip_7 : decode cX4_changeGrip 7 = .ok (.putfield 18, 3) := by decide +kernel
theorem dX4_changeGrip_10 : decode cX4_changeGrip 10 = .ok (.iload_n 2, 1) := by decide +kernel
theorem dX4_changeGrip_11 : decode cX4_changeGrip 11 = .ok (.ireturn, 1) := by decide +kernel
theorem dX4_reach_0 : decode cX4_reach 0 = .ok (.lload_n 1, 1) := by decide +kernel
theorem dX4_reach_1 : decode cX4_reach 1 = .ok (.lstore 5, 2) := by decide +kernel
theorem dX4_reach_3 : decode cX4_reach 3 = .ok (.lload_n 1, 1) := by decide +kernel
theorem dX4_reach_4 : decode cX4_reach 4 = .ok (.lstore 7, 2) := by decide +kernel
theorem dX4_reach_6 : decode cX4_reach 6 = .ok (.iconst 0, 1) := by decide +kernel
theorem dX4_reach_7 : decode cX4_reach 7 = .ok (.istore 9, 2) := by decide +kernel
theorem dX4_reach_9 : decode cX4_reach 9 = .ok (.iload 9, 2) := by decide +kernel
theorem dX4_reach_11 : decode cX4_reach 11 = .ok (.bipush 40, 2) := by decide +kernel
theorem dX4_reach_13 : decode cX4_reach 13 = .ok (.if_icmp .ge 58, 3) := by decide +kernel
theorem dX4_reach_16 : decode cX4_reach 16 = .ok (.lload 7, 2) := by decide +kernel
theorem dX4_reach_18 : decode cX4_reach 18 = .ok (.lconst 0, 1) := by decide +kernel
theorem dX4_reach_19 : decode cX4_reach 19 = .ok (.lcmp, 1) := by decide +kernel
theorem dX4_reach_20 : decode cX4_reach 20 = .ok (.ifCond .eq 51, 3) := by decide +kernel
theorem dX4_reach_23 : decode cX4_reach 23 = .ok (.aload_n 0, 1) := by decide +kernel
theorem dX4_reach_24 : decode cX4_reach 24 = .ok (.getfield 22, 3) := by decide +kernel
theorem dX4_reach_27 : decode cX4_reach 27 = .ok (.lload 7, 2) := by decide +kernel
theorem dX4_reach_29 : decode cX4_reach 29 = .ok (.invokestatic 26, 3) := by decide +kernel
theorem dX4_reach_32 : decode cX4_reach 32 = .ok (.invokevirtual 30, 3) := by decide +kernel
theorem dX4_reach_35 : decode cX4_reach 35 = .ok (.lload_n 3, 1) := by decide +kernel
theorem dX4_reach_36 : decode cX4_reach 36 = .ok (.land, 1) := by decide +kernel
theorem dX4_reach_37 : decode cX4_reach 37 = .ok (.lload 5, 2) := by decide +kernel
theorem dX4_reach_39 : decode cX4_reach 39 = .ok (.ldc2_w 36, 3) := by decide +kernel
theorem dX4_reach_42 : decode cX4_reach 42 = .ok (.lxor, 1) := by decide +kernel
theorem dX4_reach_43 : decode cX4_reach 43 = .ok (.land, 1) := by decide +kernel
theorem dX4_reach_44 : decode cX4_reach 44 = .ok (.lstore 10, 2) := by decide +kernel
theorem dX4_reach_46 : decode cX4_reach 46 = .ok (.lload 7, 2) := by decide +kernel
theorem dX4_reach_48 : decode cX4_reach 48 = .ok (.lload 7, 2) := by decide +kernel
theorem dX4_reach_50 : decode cX4_reach 50 = .ok (.lconst 1, 1) := by decide +kernel
theorem dX4_reach_51 : decode cX4_reach 51 = .ok (.lsub, 1) := by decide +kernel
theorem dX4_reach_52 : decode cX4_reach 52 = .ok (.land, 1) := by decide +kernel
theorem dX4_reach_53 : decode cX4_reach 53 = .ok (.lload 10, 2) := by decide +kernel
theorem dX4_reach_55 : decode cX4_reach 55 = .ok (.lor, 1) := by decide +kernel
theorem dX4_reach_56 : decode cX4_reach 56 = .ok (.lstore 7, 2) := by decide +kernel
theorem dX4_reach_58 : decode cX4_reach 58 = .ok (.lload 5, 2) := by decide +kernel
theorem dX4_reach_60 : decode cX4_reach 60 = .ok (.lload 10, 2) := by decide +kernel
theorem dX4_reach_62 : decode cX4_reach 62 = .ok (.lor, 1) := by decide +kernel
theorem dX4_reach_63 : decode cX4_reach 63 = .ok (.lstore 5, 2) := by decide +kernel
theorem dX4_reach_65 : decode cX4_reach 65 = .ok (.iinc 9 1, 3) := by decide +kernel
theorem dX4_reach_68 : decode cX4_reach 68 = .ok (.goto (-59), 3) := by decide +kernel
theorem dX4_reach_71 : decode cX4_reach 71 = .ok (.lload 5, 2) := by decide +kernel
theorem dX4_reach_73 : decode cX4_reach 73 = .ok (.lreturn, 1) := by decide +kernel
theorem dX4_pieceWith_0 : decode cX4_pieceWith 0 = .ok (.aload_n 0, 1) := by decide +kernel
theorem dX4_pieceWith_1 : decode cX4_pieceWith 1 = .ok (.lconst 1, 1) := by decide +kernel
theorem dX4_pieceWith_2 : decode cX4_pieceWith 2 = .ok (.iload_n 1, 1) := by decide +kernel
theorem dX4_pieceWith_3 : decode cX4_pieceWith 3 = .ok (.lshl, 1) := by decide +kernel
theorem dX4_pieceWith_4 : decode cX4_pieceWith 4 = .ok (.lload_n 2, 1) := by decide +kernel
theorem dX4_pieceWith_5 : decode cX4_pieceWith 5 = .ok (.land, 1) := by decide +kernel
theorem dX4_pieceWith_6 : decode cX4_pieceWith 6 = .ok (.lload_n 2, 1) := by decide +kernel
theorem dX4_pieceWith_7 : decode cX4_pieceWith 7 = .ok (.invokevirtual 38, 3) := by decide +kernel
theorem dX4_pieceWith_10 : decode cX4_pieceWith 10 = .ok (.lreturn, 1) := by decide +kernel
theorem dX4_countPieces_0 : decode cX4_countPieces 0 = .ok (.aload_n 0, 1) := by decide +kernel
theorem dX4_countPieces_1 : decode cX4_countPieces 1 = .ok (.getfield 22, 3) := by decide +kernel
theorem dX4_countPieces_4 : decode cX4_countPieces 4 = .ok (.invokevirtual 42, 3) := by decide +kernel
theorem dX4_countPieces_7 : decode cX4_countPieces 7 = .ok (.lstore_n 1, 1) := by decide +kernel
theorem dX4_countPieces_8 : decode cX4_countPieces 8 = .ok (.iconst 0, 1) := by decide +kernel
