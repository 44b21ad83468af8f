theorem dX7_cell_0 : decode cX7_cell 0 = .ok (.iload_n 1, 1) := by decide +kernel
theorem dX7_cell_1 : decode cX7_cell 1 = .ok (.iload_n 2, 1) := by decide +kernel
theorem dX7_cell_2 : decode cX7_cell 2 = .ok (.iload_n 3, 1) := by decide +kernel
theorem dX7_cell_3 : decode cX7_cell 3 = .ok (.invokestatic 102, 3) := by decide +kernel
theorem dX7_cell_6 : decode cX7_cell 6 = .ok (.ifCond .eq 13, 3) := by decide +kernel
theorem dX7_cell_9 : decode cX7_cell 9 = .ok (.iload 4, 2) := by decide +kernel
theorem dX7_cell_11 : decode cX7_cell 11 = .ok (.bipush 6, 2) := by decide +kernel
theorem dX7_cell_13 : decode cX7_cell 13 = .ok (.invokestatic 98, 3) := by decide +kernel
theorem dX7_cell_16 : decode cX7_cell 16 = .ok (.ifCond .ne 9, 3) := by decide +kernel
theorem dX7_cell_19 : decode cX7_cell 19 = .ok (.aload_n 0, 1) := by decide +kernel
theorem dX7_cell_20 : decode cX7_cell 20 = .ok (.iconst (-1), 1) := by decide +kernel
theorem dX7_cell_21 : decode cX7_cell 21 = .ok (.invokevirtual 106, 3) := by decide +kernel
theorem dX7_cell_24 : decode cX7_cell 24 = .ok (.ireturn, 1) := by decide +kernel
theorem dX7_cell_25 : decode cX7_cell 25 = .ok (.aload_n 0, 1) := by decide +kernel
theorem dX7_cell_26 : decode cX7_cell 26 = .ok (.getfield 13, 3) := by decide +kernel
theorem dX7_cell_29 : decode cX7_cell 29 = .ok (.iload_n 1, 1) := by decide +kernel
theorem dX7_cell_30 : decode cX7_cell 30 = .ok (.iload_n 2, 1) := by decide +kernel
theorem dX7_cell_31 : decode cX7_cell 31 = .ok (.iload_n 3, 1) := by decide +kernel
theorem dX7_cell_32 : decode cX7_cell 32 = .ok (.invokestatic 110, 3) := by decide +kernel
theorem dX7_cell_35 : decode cX7_cell 35 = .ok (.iaload, 1) := by decide +kernel
theorem dX7_cell_36 : decode cX7_cell 36 = .ok (.istore 5, 2) := by decide +kernel
theorem dX7_cell_38 : decode cX7_cell 38 = .ok (.aload_n 0, 1) := by decide +kernel
theorem dX7_cell_39 : decode cX7_cell 39 = .ok (.getfield 13, 3) := by decide +kernel
theorem dX7_cell_42 : decode cX7_cell 42 = .ok (.iload_n 1, 1) := by decide +kernel
theorem dX7_cell_43 : decode cX7_cell 43 = .ok (.iload_n 2, 1) := by decide +kernel
theorem dX7_cell_44 : decode cX7_cell 44 = .ok (.iload_n 3, 1) := by decide +kernel
theorem dX7_cell_45 : decode cX7_cell 45 = .ok (.invokestatic 110, 3) := by decide +kernel
theorem dX7_cell_48 : decode cX7_cell 48 = .ok (.iload 4, 2) := by decide +kernel
theorem dX7_cell_50 : decode cX7_cell 50 = .ok (.iastore, 1) := by decide +kernel
theorem dX7_cell_51 : decode cX7_cell 51 = .ok (.iload 5, 2) := by decide +kernel
theorem dX7_cell_53 : decode cX7_cell 53 = .ok (.ireturn, 1) := by decide +kernel
theorem dX7_cellOf_0 : decode cX7_cellOf 0 = .ok (.iload_n 1, 1) := by decide +kernel
theorem dX7_cellOf_1 : decode cX7_cellOf 1 = .ok (.iload_n 2, 1) := by decide +kernel
theorem dX7_cellOf_2 : decode cX7_cellOf 2 = .ok (.iload_n 3, 1) := by decide +kernel
theorem dX7_cellOf_3 : decode cX7_cellOf 3 = .ok (.invokestatic 102, 3) := by decide +kernel
theorem dX7_cellOf_6 : decode cX7_cellOf 6 = .ok (.ifCond .eq 17, 3) := by decide +kernel
theorem dX7_cellOf_9 : decode cX7_cellOf 9 = .ok (.aload_n 0, 1) := by decide +kernel
theorem dX7_cellOf_10 : decode cX7_cellOf 10 = .ok (.getfield 13, 3) := by decide +kernel
theorem dX7_cellOf_13 : decode cX7_cellOf 13 = .ok (.iload_n 1, 1) := by decide +kernel
theorem dX7_cellOf_14 : decode cX7_cellOf 14 = .ok (.iload_n 2, 1) := by decide +kernel
theorem dX7_cellOf_15 : decode cX7_cellOf 15 = .ok (.iload_n 3, 1) := by decide +kernel
theorem dX7_cellOf_16 : decode cX7_cellOf 16 = .ok (.invokestatic 110, 3) := by decide +kernel
theorem dX7_cellOf_19 : decode cX7_cellOf 19 = .ok (.iaload, 1) := by decide +kernel
theorem dX7_cellOf_20 : decode cX7_cellOf 20 = .ok (.goto 8, 3) := by decide +kernel
theorem dX7_cellOf_23 : decode cX7_cellOf 23 = .ok (.aload_n 0, 1) := by decide +kernel
theorem dX7_cellOf_24 : decode cX7_cellOf 24 = .ok (.iconst (-1), 1) := by decide +kernel
theorem dX7_cellOf_25 : decode cX7_cellOf 25 = .ok (.invokevirtual 106, 3) := by decide +kernel
theorem dX7_cellOf_28 : decode cX7_cellOf 28 = .ok (.ireturn, 1) := by decide +kernel
theorem dX7_isBody_0 : decode cX7_isBody 0 = .ok (.iload_n 1, 1) := by decide +kernel
theorem dX7_isBody_1 : decode cX7_isBody 1 = .ok (.iload_n 2, 1) := by decide +kernel
theorem dX7_isBody_2 : decode cX7_isBody 2 = .ok (.iload_n 3, 1) := by decide +kernel
theorem dX7_isBody_3 : decode cX7_isBody 3 = .ok (.invokestatic 102, 3) := by decide +kernel
theorem dX7_isBody_6 : decode cX7_isBody 6 = .ok (.ifCond .eq 21, 3) := by decide +kernel
theorem dX7_isBody_9 : decode cX7_isBody 9 = .ok (.aload_n 0, 1) := by decide +kernel
theorem dX7_isBody_10 : decode cX7_isBody 10 = .ok (.getfield 13, 3) := by decide +kernel
theorem dX7_isBody_13 : decode cX7_isBody 13 = .ok (.iload_n 1, 1) := by decide +kernel
theorem dX7_isBody_14 : decode cX7_isBody 14 = .ok (.iload_n 2, 1) := by decide +kernel
theorem dX7_isBody_15 : decode cX7_isBody 15 = .ok (.iload_n 3, 1) := by decide +kernel
theorem dX7_isBody_16 : decode cX7_isBody 16 = .ok (.invokestatic 110, 3) := by decide +kernel
theorem dX7_isBody_19 : decode cX7_isBody 19 = .ok (.iaload, 1) := by decide +kernel
theorem dX7_isBody_20 : decode cX7_isBody 20 = .ok (.ifCond .le 7, 3) := by decide +kernel
theorem dX7_isBody_23 : decode cX7_isBody 23 = .ok (.iconst 1, 1) := by decide +kernel
theorem dX7_isBody_24 : decode cX7_isBody 24 = .ok (.goto 4, 3) := by decide +kernel
theorem dX7_isBody_27 : decode cX7_isBody 27 = .ok (.iconst 0, 1) := by decide +kernel
theorem dX7_isBody_28 : decode cX7_isBody 28 = .ok (.ireturn, 1) := by decide +kernel
theorem dX7_isInner_0 : decode cX7_isInner 0 = .ok (.aload_n 0, 1) := by decide +kernel
theorem dX7_isInner_1 : decode cX7_isInner 1 = .ok (.iload_n 1, 1) := by decide +kernel
theorem dX7_isInner_2 : decode cX7_isInner 2 = .ok (.iload_n 2, 1) := by decide +kernel
theorem dX7_isInner_3 : decode cX7_isInner 3 = .ok (.iload_n 3, 1) := by decide +kernel
theorem dX7_isInner_4 : decode cX7_isInner 4 = .ok (.invokevirtual 114, 3) := by decide +kernel
theorem dX7_isInner_7 : decode cX7_isInner 7 = .ok (.ifCond .eq 79, 3) := by decide +kernel
theorem dX7_isInner_10 : decode cX7_isInner 10 = .ok (.aload_n 0, 1) := by decide +kernel
theorem dX7_isInner_11 : decode cX7_isInner 11 = .ok (.iload_n 1, 1) := by decide +kernel
theorem dX7_isInner_12 : decode cX7_isInner 12 = .ok (.iconst 1, 1) := by decide +kernel
theorem dX7_isInner_13 : decode cX7_isInner 13 = .ok (.isub, 1) := by decide +kernel
theorem dX7_isInner_14 : decode cX7_isInner 14 = .ok (.iload_n 2, 1) := by decide +kernel
theorem dX7_isInner_15 : decode cX7_isInner 15 = .ok (.iload_n 3, 1) := by decide +kernel
theorem dX7_isInner_16 : decode cX7_isInner 16 = .ok (.invokevirtual 114, 3) := by decide +kernel
theorem dX7_isInner_19 : decode cX7_isInner 19 = .ok (.ifCond .eq 67, 3) := by decide +kernel
theorem dX7_isInner_22 : decode cX7_isInner 22 = .ok (.aload_n 0, 1) := by decide +kernel
theorem dX7_isInner_23 : decode cX7_isInner 23 = .ok (.iload_n 1, 1) := by decide +kernel
theorem dX7_isInner_24 : decode cX7_isInner 24 = .ok (.iconst 1, 1) := by decide +kernel
theorem dX7_isInner_25 : decode cX7_isInner 25 = .ok (.iadd, 1) := by decide +kernel
theorem dX7_isInner_26 : decode cX7_isInner 26 = .ok (.iload_n 2, 1) := by decide +kernel
theorem dX7_isInner_27 : decode cX7_isInner 27 = .ok (.iload_n 3, 1) := by decide +kernel
theorem dX7_isInner_28 : decode cX7_isInner 28 = .ok (.invokevirtual 114, 3) := by decide +kernel
theorem dX7_isInner_31 : decode cX7_isInner 31 = .ok (.ifCond .eq 55, 3) := by decide +kernel
theorem dX7_isInner_34 : decode cX7_isInner 34 = .ok (.aload_n 0, 1) := by decide +kernel
theorem dX7_isInner_35 : decode cX7_isInner 35 = .ok (.iload_n 1, 1) := by decide +kernel
theorem dX7_isInner_36 : decode cX7_isInner 36 = .ok (.iload_n 2, 1) := by decide +kernel
theorem dX7_isInner_37 : decode cX7_isInner 37 = .ok (.iconst 1, 1) := by decide +kernel
theorem dX7_isInner_38 : decode cX7_isInner 38 = .ok (.isub, 1) := by decide +kernel
theorem dX7_isInner_39 : decode cX7_isInner 39 = .ok (.iload_n 3, 1) := by decide +kernel
theorem dX7_isInner_40 : decode cX7_isInner 40 = .ok (.invokevirtual 114, 3) := by decide +kernel
theorem dX7_isInner_43 : decode cX7_isInner 43 = .ok (.ifCond .eq 43, 3) := by decide +kernel
theorem dX7_isInner_46 : decode cX7_isInner 46 = .ok (.aload_n 0, 1) := by decide +kernel
theorem dX7_isInner_47 : decode cX7_isInner 47 = .ok (.iload_n 1, 1) := by decide +kernel
theorem dX7_isInner_48 : decode cX7_isInner 48 = .ok (.iload_n 2, 1) := by decide +kernel
theorem dX7_isInner_49 : decode cX7_isInner 49 = .ok (.iconst 1, 1) := by decide +kernel
theorem dX7_isInner_50 : decode cX7_isInner 50 = .ok (.iadd, 1) := by decide +kernel
theorem dX7_isInner_51 : decode cX7_isInner 51 = .ok (.iload_n 3, 1) := by decide +kernel
theorem dX7_isInner_52 : decode cX7_isInner 52 = .ok (.invokevirtual 114, 3) := by decide +kernel
theorem dX7_isInner_55 : decode cX7_isInner 55 = .ok (.ifCond .eq 31, 3) := by decide +kernel
theorem dX7_isInner_58 : decode cX7_isInner 58 = .ok (.aload_n 0, 1) := by decide +kernel
theorem dX7_isInner_59 : decode cX7_isInner 59 = .ok (.iload_n 1, 1) := by decide +kernel
theorem dX7_isInner_60 : decode cX7_isInner 60 = .ok (.iload_n 2, 1) := by decide +kernel
theorem dX7_isInner_61 : decode cX7_isInner 61 = .ok (.iload_n 3, 1) := by decide +kernel
theorem dX7_isInner_62 : decode cX7_isInner 62 = .ok (.iconst 1, 1) := by decide +kernel
theorem dX7_isInner_63 : decode cX7_isInner 63 = .ok (.isub, 1) := by decide +kernel
theorem dX7_isInner_64 : decode cX7_isInner 64 = .ok (.invokevirtual 114, 3) := by decide +kernel
theorem dX7_isInner_67 : decode cX7_isInner 67 = .ok (.ifCond .eq 19, 3) := by decide +kernel
theorem dX7_isInner_70 : decode cX7_isInner 70 = .ok (.aload_n 0, 1) := by decide +kernel
theorem dX7_isInner_71 : decode cX7_isInner 71 = .ok (.iload_n 1, 1) := by decide +kernel
theorem dX7_isInner_72 : decode cX7_isInner 72 = .ok (.iload_n 2, 1) := by decide +kernel
theorem dX7_isInner_73 : decode cX7_isInner 73 = .ok (.iload_n 3, 1) := by decide +kernel
theorem dX7_isInner_74 : decode cX7_isInner 74 = .ok (.iconst 1, 1) := by decide +kernel
theorem dX7_isInner_75 : decode cX7_isInner 75 = .ok (.iadd, 1) := by decide +kernel
theorem dX7_isInner_76 : decode cX7_isInner 76 = .ok (.invokevirtual 114, 3) := by decide +kernel
theorem dX7_isInner_79 : decode cX7_isInner 79 = .ok (.ifCond .eq 7, 3) := by decide +kernel
theorem dX7_isInner_82 : decode cX7_isInner 82 = .ok (.iconst 1, 1) := by decide +kernel
theorem dX7_isInner_83 : decode cX7_isInner 83 = .ok (.goto 4, 3) := by decide +kernel
theorem dX7_isInner_86 : decode cX7_isInner 86 = .ok (.iconst 0, 1) := by decide +kernel
theorem dX7_isInner_87 : decode cX7_isInner 87 = .ok (.ireturn, 1) := by decide +kernel
theorem dX7_inner_0 : decode cX7_inner 0 = .ok (.iconst 0, 1) := by decide +kernel
theorem dX7_inner_1 : decode cX7_inner 1 = .ok (.istore_n 1, 1) := by decide +kernel
theorem dX7_inner_2 : decode cX7_inner 2 = .ok (.iconst 0, 1) := by decide +kernel
theorem dX7_inner_3 : decode cX7_inner 3 = .ok (.istore_n 2, 1) := by decide +kernel
theorem dX7_inner_4 : decode cX7_inner 4 = .ok (.iload_n 2, 1) := by decide +kernel
theorem dX7_inner_5 : decode cX7_inner 5 = .ok (.sipush 180, 3) := by decide +kernel
theorem dX7_inner_8 : decode cX7_inner 8 = .ok (.if_icmp .ge 39, 3) := by decide +kernel
theorem dX7_inner_11 : decode cX7_inner 11 = .ok (.iload_n 1, 1) := by decide +kernel
theorem dX7_inner_12 : decode cX7_inner 12 = .ok (.aload_n 0, 1) := by decide +kernel
theorem dX7_inner_13 : decode cX7_inner 13 = .ok (.iload_n 2, 1) := by decide +kernel
theorem dX7_inner_14 : decode cX7_inner 14 = .ok (.bipush 6, 2) := by decide +kernel
theorem dX7_inner_16 : decode cX7_inner 16 = .ok (.irem, 1) := by decide +kernel
theorem dX7_inner_17 : decode cX7_inner 17 = .ok (.iload_n 2, 1) := by decide +kernel
theorem dX7_inner_18 : decode cX7_inner 18 = .ok (.bipush 6, 2) := by decide +kernel
theorem dX7_inner_20 : decode cX7_inner 20 = .ok (.idiv, 1) := by decide +kernel
theorem dX7_inner_21 : decode cX7_inner 21 = .ok (.bipush 6, 2) := by decide +kernel
theorem dX7_inner_23 : decode cX7_inner 23 = .ok (.irem, 1) := by decide +kernel
theorem dX7_inner_24 : decode cX7_inner 24 = .ok (.iload_n 2, 1) := by decide +kernel
theorem dX7_inner_25 : decode cX7_inner 25 = .ok (.bipush 36, 2) := by decide +kernel
theorem dX7_inner_27 : decode cX7_inner 27 = .ok (.idiv, 1) := by decide +kernel
theorem dX7_inner_28 : decode cX7_inner 28 = .ok (.invokevirtual 117, 3) := by decide +kernel
theorem dX7_inner_31 : decode cX7_inner 31 = .ok (.ifCond .eq 7, 3) := by decide +kernel
theorem dX7_inner_34 : decode cX7_inner 34 = .ok (.iconst 1, 1) := by decide +kernel
theorem dX7_inner_35 : decode cX7_inner 35 = .ok (.goto 4, 3) := by decide +kernel
theorem dX7_inner_38 : decode cX7_inner 38 = .ok (.iconst 0, 1) := by decide +kernel
theorem dX7_inner_39 : decode cX7_inner 39 = .ok (.iadd, 1) := by decide +kernel
theorem dX7_inner_40 : decode cX7_inner 40 = .ok (.istore_n 1, 1) := by decide +kernel
theorem dX7_inner_41 : decode cX7_inner 41 = .ok (.iinc 2 1, 3) := by decide +kernel
theorem dX7_inner_44 : decode cX7_inner 44 = .ok (.goto (-40), 3) := by decide +kernel
theorem dX7_inner_47 : decode cX7_inner 47 = .ok (.iload_n 1, 1) := by decide +kernel
theorem dX7_inner_48 : decode cX7_inner 48 = .ok (.ireturn, 1) := by decide +kernel
theorem dX7_lengthX_0 : decode cX7_lengthX 0 = .ok (.iload_n 1, 1) := by decide +kernel
theorem dX7_lengthX_1 : decode cX7_lengthX 1 = .ok (.ifCond .ne 11, 3) := by decide +kernel
theorem dX7_lengthX_4 : decode cX7_lengthX 4 = .ok (.getstatic 120, 3) := by decide +kernel
theorem dX7_lengthX_7 : decode cX7_lengthX 7 = .ok (.iload_n 0, 1) := by decide +kernel
theorem dX7_lengthX_8 : decode cX7_lengthX 8 = .ok (.iaload, 1) := by decide +kernel
theorem dX7_lengthX_9 : decode cX7_lengthX 9 = .ok (.goto 8, 3) := by decide +kernel
theorem dX7_lengthX_12 : decode cX7_lengthX 12 = .ok (.getstatic 123, 3) := by decide +kernel
theorem dX7_lengthX_15 : decode cX7_lengthX 15 = .ok (.iload_n 0, 1) := by decide +kernel
theorem dX7_lengthX_16 : decode cX7_lengthX 16 = .ok (.iaload, 1) := by decide +kernel
theorem dX7_lengthX_17 : decode cX7_lengthX 17 = .ok (.ireturn, 1) := by decide +kernel
theorem dX7_lengthY_0 : decode cX7_lengthY 0 = .ok (.iload_n 1, 1) := by decide +kernel
theorem dX7_lengthY_1 : decode cX7_lengthY 1 = .ok (.ifCond .ne 11, 3) := by decide +kernel
theorem dX7_lengthY_4 : decode cX7_lengthY 4 = .ok (.getstatic 123, 3) := by decide +kernel
theorem dX7_lengthY_7 : decode cX7_lengthY 7 = .ok (.iload_n 0, 1) := by decide +kernel
theorem dX7_lengthY_8 : decode cX7_lengthY 8 = .ok (.iaload, 1) := by decide +kernel
theorem dX7_lengthY_9 : decode cX7_lengthY 9 = .ok (.goto 8, 3) := by decide +kernel
theorem dX7_lengthY_12 : decode cX7_lengthY 12 = .ok (.getstatic 120, 3) := by decide +kernel
theorem dX7_lengthY_15 : decode cX7_lengthY 15 = .ok (.iload_n 0, 1) := by decide +kernel
theorem dX7_lengthY_16 : decode cX7_lengthY 16 = .ok (.iaload, 1) := by decide +kernel
theorem dX7_lengthY_17 : decode cX7_lengthY 17 = .ok (.ireturn, 1) := by decide +kernel
theorem dX7_cells_0 : decode cX7_cells 0 = .ok (.getstatic 120, 3) := by decide +kernel
theorem dX7_cells_3 : decode cX7_cells 3 = .ok (.aload_n 0, 1) := by decide +kernel
theorem dX7_cells_4 : decode cX7_cells 4 = .ok (.getfield 22, 3) := by decide +kernel
theorem dX7_cells_7 : decode cX7_cells 7 = .ok (.iload_n 1, 1) := by decide +kernel
theorem dX7_cells_8 : decode cX7_cells 8 = .ok (.iaload, 1) := by decide +kernel
theorem dX7_cells_9 : decode cX7_cells 9 = .ok (.iaload, 1) := by decide +kernel
theorem dX7_cells_10 : decode cX7_cells 10 = .ok (.getstatic 123, 3) := by decide +kernel
theorem dX7_cells_13 : decode cX7_cells 13 = .ok (.aload_n 0, 1) := by decide +kernel
theorem dX7_cells_14 : decode cX7_cells 14 = .ok (.getfield 22, 3) := by decide +kernel
theorem dX7_cells_17 : decode cX7_cells 17 = .ok (.iload_n 1, 1) := by decide +kernel
theorem dX7_cells_18 : decode cX7_cells 18 = .ok (.iaload, 1) := by decide +kernel
theorem dX7_cells_19 : decode cX7_cells 19 = .ok (.iaload, 1) := by decide +kernel
theorem dX7_cells_20 : decode cX7_cells 20 = .ok (.imul, 1) := by decide +kernel
theorem dX7_cells_21 : decode cX7_cells 21 = .ok (.ireturn, 1) := by decide +kernel
theorem dX7_fills_0 : decode cX7_fills 0 = .ok (.iconst 0, 1) := by decide +kernel
theorem dX7_fills_1 : decode cX7_fills 1 = .ok (.istore_n 3, 1) := by decide +kernel
theorem dX7_fills_2 : decode cX7_fills 2 = .ok (.iload_n 3, 1) := by decide +kernel
theorem dX7_fills_3 : decode cX7_fills 3 = .ok (.aload_n 0, 1) := by decide +kernel
theorem dX7_fills_4 : decode cX7_fills 4 = .ok (.getfield 22, 3) := by decide +kernel
theorem dX7_fills_7 : decode cX7_fills 7 = .ok (.iload_n 1, 1) := by decide +kernel
theorem dX7_fills_8 : decode cX7_fills 8 = .ok (.iaload, 1) := by decide +kernel
theorem dX7_fills_9 : decode cX7_fills 9 = .ok (.aload_n 0, 1) := by decide +kernel
theorem dX7_fills_10 : decode cX7_fills 10 = .ok (.getfield 25, 3) := by decide +kernel
theorem dX7_fills_13 : decode cX7_fills 13 = .ok (.iload_n 1, 1) := by decide +kernel
theorem dX7_fills_14 : decode cX7_fills 14 = .ok (.iaload, 1) := by decide +kernel
theorem dX7_fills_15 : decode cX7_fills 15 = .ok (.invokestatic 126, 3) := by decide +kernel
theorem dX7_fills_18 : decode cX7_fills 18 = .ok (.if_icmp .ge 70, 3) := by decide +kernel
theorem dX7_fills_21 : decode cX7_fills 21 = .ok (.iconst 0, 1) := by decide +kernel
theorem dX7_fills_22 : decode cX7_fills 22 = .ok (.istore 4, 2) := by decide +kernel
theorem dX7_fills_24 : decode cX7_fills 24 = .ok (.iload 4, 2) := by decide +kernel
theorem dX7_fills_26 : decode cX7_fills 26 = .ok (.aload_n 0, 1) := by decide +kernel
theorem dX7_fills_27 : decode cX7_fills 27 = .ok (.getfield 22, 3) := by decide +kernel
theorem dX7_fills_30 : decode cX7_fills 30 = .ok (.iload_n 1, 1) := by decide +kernel
theorem dX7_fills_31 : decode cX7_fills 31 = .ok (.iaload, 1) := by decide +kernel
theorem dX7_fills_32 : decode cX7_fills 32 = .ok (.aload_n 0, 1) := by decide +kernel
theorem dX7_fills_33 : decode cX7_fills 33 = .ok (.getfield 25, 3) := by decide +kernel
theorem dX7_fills_36 : decode cX7_fills 36 = .ok (.iload_n 1, 1) := by decide +kernel
theorem dX7_fills_37 : decode cX7_fills 37 = .ok (.iaload, 1) := by decide +kernel
theorem dX7_fills_38 : decode cX7_fills 38 = .ok (.invokestatic 130, 3) := by decide +kernel
theorem dX7_fills_41 : decode cX7_fills 41 = .ok (.if_icmp .ge 41, 3) := by decide +kernel
theorem dX7_fills_44 : decode cX7_fills 44 = .ok (.aload_n 0, 1) := by decide +kernel
theorem dX7_fills_45 : decode cX7_fills 45 = .ok (.getfield 16, 3) := by decide +kernel
theorem dX7_fills_48 : decode cX7_fills 48 = .ok (.aload_n 0, 1) := by decide +kernel
theorem dX7_fills_49 : decode cX7_fills 49 = .ok (.getfield 28, 3) := by decide +kernel
theorem dX7_fills_52 : decode cX7_fills 52 = .ok (.iload_n 1, 1) := by decide +kernel
theorem dX7_fills_53 : decode cX7_fills 53 = .ok (.iaload, 1) := by decide +kernel
theorem dX7_fills_54 : decode cX7_fills 54 = .ok (.iload 4, 2) := by decide +kernel
theorem dX7_fills_56 : decode cX7_fills 56 = .ok (.iadd, 1) := by decide +kernel
theorem dX7_fills_57 : decode cX7_fills 57 = .ok (.aload_n 0, 1) := by decide +kernel
theorem dX7_fills_58 : decode cX7_fills 58 = .ok (.getfield 31, 3) := by decide +kernel
theorem dX7_fills_61 : decode cX7_fills 61 = .ok (.iload_n 1, 1) := by decide +kernel
theorem dX7_fills_62 : decode cX7_fills 62 = .ok (.iaload, 1) := by decide +kernel
theorem dX7_fills_63 : decode cX7_fills 63 = .ok (.iload_n 3, 1) := by decide +kernel
theorem dX7_fills_64 : decode cX7_fills 64 = .ok (.iadd, 1) := by decide +kernel
theorem dX7_fills_65 : decode cX7_fills 65 = .ok (.aload_n 0, 1) := by decide +kernel
theorem dX7_fills_66 : decode cX7_fills 66 = .ok (.getfield 34, 3) := by decide +kernel
theorem dX7_fills_69 : decode cX7_fills 69 = .ok (.iload_n 1, 1) := by decide +kernel
theorem dX7_fills_70 : decode cX7_fills 70 = .ok (.iaload, 1) := by decide +kernel
theorem dX7_fills_71 : decode cX7_fills 71 = .ok (.invokestatic 110, 3) := by decide +kernel
theorem dX7_fills_74 : decode cX7_fills 74 = .ok (.iload_n 2, 1) := by decide +kernel
theorem dX7_fills_75 : decode cX7_fills 75 = .ok (.iastore, 1) := by decide +kernel
theorem dX7_fills_76 : decode cX7_fills 76 = .ok (.iinc 4 1, 3) := by decide +kernel
theorem dX7_fills_79 : decode cX7_fills 79 = .ok (.goto (-55), 3) := by decide +kernel
theorem dX7_fills_82 : decode cX7_fills 82 = .ok (.iinc 3 1, 3) := by decide +kernel
theorem dX7_fills_85 : decode cX7_fills 85 = .ok (.goto (-83), 3) := by decide +kernel
theorem dX7_fills_88 : decode cX7_fills 88 = .ok (.return_, 1) := by decide +kernel
theorem dX7_adds_0 : decode cX7_adds 0 = .ok (.aload_n 0, 1) := by decide +kernel
theorem dX7_adds_1 : decode cX7_adds 1 = .ok (.getfield 22, 3) := by decide +kernel
theorem dX7_adds_4 : decode cX7_adds 4 = .ok (.aload_n 0, 1) := by decide +kernel
theorem dX7_adds_5 : decode cX7_adds 5 = .ok (.getfield 133, 3) := by decide +kernel
theorem dX7_adds_8 : decode cX7_adds 8 = .ok (.iload_n 1, 1) := by decide +kernel
theorem dX7_adds_9 : decode cX7_adds 9 = .ok (.iastore, 1) := by decide +kernel
theorem dX7_adds_10 : decode cX7_adds 10 = .ok (.aload_n 0, 1) := by decide +kernel
theorem dX7_adds_11 : decode cX7_adds 11 = .ok (.getfield 25, 3) := by decide +kernel
theorem dX7_adds_14 : decode cX7_adds 14 = .ok (.aload_n 0, 1) := by decide +kernel
theorem dX7_adds_15 : decode cX7_adds 15 = .ok (.getfield 133, 3) := by decide +kernel
theorem dX7_adds_18 : decode cX7_adds 18 = .ok (.iload_n 2, 1) := by decide +kernel
theorem dX7_adds_19 : decode cX7_adds 19 = .ok (.iastore, 1) := by decide +kernel
theorem dX7_adds_20 : decode cX7_adds 20 = .ok (.aload_n 0, 1) := by decide +kernel
theorem dX7_adds_21 : decode cX7_adds 21 = .ok (.getfield 28, 3) := by decide +kernel
theorem dX7_adds_24 : decode cX7_adds 24 = .ok (.aload_n 0, 1) := by decide +kernel
theorem dX7_adds_25 : decode cX7_adds 25 = .ok (.getfield 133, 3) := by decide +kernel
theorem dX7_adds_28 : decode cX7_adds 28 = .ok (.iload_n 3, 1) := by decide +kernel
theorem dX7_adds_29 : decode cX7_adds 29 = .ok (.iastore, 1) := by decide +kernel
theorem dX7_adds_30 : decode cX7_adds 30 = .ok (.aload_n 0, 1) := by decide +kernel
theorem dX7_adds_31 : decode cX7_adds 31 = .ok (.getfield 31, 3) := by decide +kernel
theorem dX7_adds_34 : decode cX7_adds 34 = .ok (.aload_n 0, 1) := by decide +kernel
theorem dX7_adds_35 : decode cX7_adds 35 = .ok (.getfield 133, 3) := by decide +kernel
theorem dX7_adds_38 : decode cX7_adds 38 = .ok (.iload 4, 2) := by decide +kernel
theorem dX7_adds_40 : decode cX7_adds 40 = .ok (.iastore, 1) := by decide +kernel
theorem dX7_adds_41 : decode cX7_adds 41 = .ok (.aload_n 0, 1) := by decide +kernel
theorem dX7_adds_42 : decode cX7_adds 42 = .ok (.getfield 34, 3) := by decide +kernel
theorem dX7_adds_45 : decode cX7_adds 45 = .ok (.aload_n 0, 1) := by decide +kernel
theorem dX7_adds_46 : decode cX7_adds 46 = .ok (.getfield 133, 3) := by decide +kernel
theorem dX7_adds_49 : decode cX7_adds 49 = .ok (.iload 5, 2) := by decide +kernel
theorem dX7_adds_51 : decode cX7_adds 51 = .ok (.iastore, 1) := by decide +kernel
theorem dX7_adds_52 : decode cX7_adds 52 = .ok (.aload_n 0, 1) := by decide +kernel
theorem dX7_adds_53 : decode cX7_adds 53 = .ok (.getfield 37, 3) := by decide +kernel
theorem dX7_adds_56 : decode cX7_adds 56 = .ok (.aload_n 0, 1) := by decide +kernel
theorem dX7_adds_57 : decode cX7_adds 57 = .ok (.getfield 133, 3) := by decide +kernel
theorem dX7_adds_60 : decode cX7_adds 60 = .ok (.iload 6, 2) := by decide +kernel
theorem dX7_adds_62 : decode cX7_adds 62 = .ok (.iastore, 1) := by decide +kernel
theorem dX7_adds_63 : decode cX7_adds 63 = .ok (.aload_n 0, 1) := by decide +kernel
theorem dX7_adds_64 : decode cX7_adds 64 = .ok (.aload_n 0, 1) := by decide +kernel
theorem dX7_adds_65 : decode cX7_adds 65 = .ok (.getfield 133, 3) := by decide +kernel
theorem dX7_adds_68 : decode cX7_adds 68 = .ok (.aload_n 0, 1) := by decide +kernel
theorem dX7_adds_69 : decode cX7_adds 69 = .ok (.getfield 133, 3) := by decide +kernel
theorem dX7_adds_72 : decode cX7_adds 72 = .ok (.invokevirtual 136, 3) := by decide +kernel
theorem dX7_adds_75 : decode cX7_adds 75 = .ok (.aload_n 0, 1) := by decide +kernel
theorem dX7_adds_76 : decode cX7_adds 76 = .ok (.dup, 1) := by decide +kernel
theorem dX7_adds_77 : decode cX7_adds 77 = .ok (.getfield 140, 3) := by decide +kernel
theorem dX7_adds_80 : decode cX7_adds 80 = .ok (.lconst 1, 1) := by decide +kernel
theorem dX7_adds_81 : decode cX7_adds 81 = .ok (.aload_n 0, 1) := by decide +kernel
theorem dX7_adds_82 : decode cX7_adds 82 = .ok (.getfield 133, 3) := by decide +kernel
theorem dX7_adds_85 : decode cX7_adds 85 = .ok (.lshl, 1) := by decide +kernel
theorem dX7_adds_86 : decode cX7_adds 86 = .ok (.lor, 1) := by decide +kernel
theorem dX7_adds_87 : decode cX7_adds 87 = .ok (.putfield 140, 3) := by decide +kernel
theorem dX7_adds_90 : decode cX7_adds 90 = .ok (.aload_n 0, 1) := by decide +kernel
theorem dX7_adds_91 : decode cX7_adds 91 = .ok (.dup, 1) := by decide +kernel
theorem dX7_adds_92 : decode cX7_adds 92 = .ok (.getfield 133, 3) := by decide +kernel
theorem dX7_adds_95 : decode cX7_adds 95 = .ok (.iconst 1, 1) := by decide +kernel
theorem dX7_adds_96 : decode cX7_adds 96 = .ok (.iadd, 1) := by decide +kernel
theorem dX7_adds_97 : decode cX7_adds 97 = .ok (.putfield 133, 3) := by decide +kernel
theorem dX7_adds_100 : decode cX7_adds 100 = .ok (.return_, 1) := by decide +kernel
theorem dX7_place_0 : decode cX7_place 0 = .ok (.iload_n 1, 1) := by decide +kernel
theorem dX7_place_1 : decode cX7_place 1 = .ok (.bipush 7, 2) := by decide +kernel
theorem dX7_place_3 : decode cX7_place 3 = .ok (.invokestatic 98, 3) := by decide +kernel
theorem dX7_place_6 : decode cX7_place 6 = .ok (.ifCond .eq 33, 3) := by decide +kernel
theorem dX7_place_9 : decode cX7_place 9 = .ok (.iload_n 2, 1) := by decide +kernel
theorem dX7_place_10 : decode cX7_place 10 = .ok (.iconst 2, 1) := by decide +kernel
theorem dX7_place_11 : decode cX7_place 11 = .ok (.invokestatic 98, 3) := by decide +kernel
theorem dX7_place_14 : decode cX7_place 14 = .ok (.ifCond .eq 25, 3) := by decide +kernel
theorem dX7_place_17 : decode cX7_place 17 = .ok (.iload 6, 2) := by decide +kernel
theorem dX7_place_19 : decode cX7_place 19 = .ok (.iconst 1, 1) := by decide +kernel
theorem dX7_place_20 : decode cX7_place 20 = .ok (.isub, 1) := by decide +kernel
theorem dX7_place_21 : decode cX7_place 21 = .ok (.iconst 5, 1) := by decide +kernel
theorem dX7_place_22 : decode cX7_place 22 = .ok (.invokestatic 98, 3) := by decide +kernel
theorem dX7_place_25 : decode cX7_place 25 = .ok (.ifCond .eq 14, 3) := by decide +kernel
theorem dX7_place_28 : decode cX7_place 28 = .ok (.iload_n 3, 1) := by decide +kernel
theorem dX7_place_29 : decode cX7_place 29 = .ok (.iload 4, 2) := by decide +kernel
theorem dX7_place_31 : decode cX7_place 31 = .ok (.iload 5, 2) := by decide +kernel
theorem dX7_place_33 : decode cX7_place 33 = .ok (.invokestatic 102, 3) := by decide +kernel
theorem dX7_place_36 : decode cX7_place 36 = .ok (.ifCond .ne 9, 3) := by decide +kernel
theorem dX7_place_39 : decode cX7_place 39 = .ok (.aload_n 0, 1) := by decide +kernel
theorem dX7_place_40 : decode cX7_place 40 = .ok (.iconst (-1), 1) := by decide +kernel
theorem dX7_place_41 : decode cX7_place 41 = .ok (.invokevirtual 106, 3) := by decide +kernel
theorem dX7_place_44 : decode cX7_place 44 = .ok (.ireturn, 1) := by decide +kernel
theorem dX7_place_45 : decode cX7_place 45 = .ok (.iload_n 1, 1) := by decide +kernel
theorem dX7_place_46 : decode cX7_place 46 = .ok (.iload_n 2, 1) := by decide +kernel
theorem dX7_place_47 : decode cX7_place 47 = .ok (.invokestatic 130, 3) := by decide +kernel
theorem dX7_place_50 : decode cX7_place 50 = .ok (.istore 7, 2) := by decide +kernel
theorem dX7_place_52 : decode cX7_place 52 = .ok (.iload_n 1, 1) := by decide +kernel
theorem dX7_place_53 : decode cX7_place 53 = .ok (.iload_n 2, 1) := by decide +kernel
theorem dX7_place_54 : decode cX7_place 54 = .ok (.invokestatic 126, 3) := by decide +kernel
theorem dX7_place_57 : decode cX7_place 57 = .ok (.istore 8, 2) := by decide +kernel
theorem dX7_place_59 : decode cX7_place 59 = .ok (.iload_n 3, 1) := by decide +kernel
theorem dX7_place_60 : decode cX7_place 60 = .ok (.iload 7, 2) := by decide +kernel
theorem dX7_place_62 : decode cX7_place 62 = .ok (.iadd, 1) := by decide +kernel
theorem dX7_place_63 : decode cX7_place 63 = .ok (.bipush 6, 2) := by decide +kernel
theorem dX7_place_65 : decode cX7_place 65 = .ok (.if_icmp .gt 13, 3) := by decide +kernel
theorem dX7_place_68 : decode cX7_place 68 = .ok (.iload 4, 2) := by decide +kernel
theorem dX7_place_70 : decode cX7_place 70 = .ok (.iload 8, 2) := by decide +kernel
theorem dX7_place_72 : decode cX7_place 72 = .ok (.iadd, 1) := by decide +kernel
theorem dX7_place_73 : decode cX7_place 73 = .ok (.bipush 6, 2) := by decide +kernel
theorem dX7_place_75 : decode cX7_place 75 = .ok (.if_icmp .le 10, 3) := by decide +kernel
theorem dX7_place_78 : decode cX7_place 78 = .ok (.aload_n 0, 1) := by decide +kernel
theorem dX7_place_79 : decode cX7_place 79 = .ok (.bipush (-6), 2) := by decide +kernel
theorem dX7_place_81 : decode cX7_place 81 = .ok (.invokevirtual 106, 3) := by decide +kernel
theorem dX7_place_84 : decode cX7_place 84 = .ok (.ireturn, 1) := by decide +kernel
theorem dX7_place_85 : decode cX7_place 85 = .ok (.iconst 0, 1) := by decide +kernel
theorem dX7_place_86 : decode cX7_place 86 = .ok (.istore 9, 2) := by decide +kernel
theorem dX7_place_88 : decode cX7_place 88 = .ok (.iload 9, 2) := by decide +kernel
theorem dX7_place_90 : decode cX7_place 90 = .ok (.iload 7, 2) := by decide +kernel
theorem dX7_place_92 : decode cX7_place 92 = .ok (.if_icmp .ge 54, 3) := by decide +kernel
theorem dX7_place_95 : decode cX7_place 95 = .ok (.iconst 0, 1) := by decide +kernel
theorem dX7_place_96 : decode cX7_place 96 = .ok (.istore 10, 2) := by decide +kernel
theorem dX7_place_98 : decode cX7_place 98 = .ok (.iload 10, 2) := by decide +kernel
theorem dX7_place_100 : decode cX7_place 100 = .ok (.iload 8, 2) := by decide +kernel
theorem dX7_place_102 : decode cX7_place 102 = .ok (.if_icmp .ge 38, 3) := by decide +kernel
theorem dX7_place_105 : decode cX7_place 105 = .ok (.aload_n 0, 1) := by decide +kernel
theorem dX7_place_106 : decode cX7_place 106 = .ok (.getfield 16, 3) := by decide +kernel
theorem dX7_place_109 : decode cX7_place 109 = .ok (.iload_n 3, 1) := by decide +kernel
theorem dX7_place_110 : decode cX7_place 110 = .ok (.iload 9, 2) := by decide +kernel
theorem dX7_place_112 : decode cX7_place 112 = .ok (.iadd, 1) := by decide +kernel
theorem dX7_place_113 : decode cX7_place 113 = .ok (.iload 4, 2) := by decide +kernel
theorem dX7_place_115 : decode cX7_place 115 = .ok (.iload 10, 2) := by decide +kernel
theorem dX7_place_117 : decode cX7_place 117 = .ok (.iadd, 1) := by decide +kernel
theorem dX7_place_118 : decode cX7_place 118 = .ok (.iload 5, 2) := by decide +kernel
theorem dX7_place_120 : decode cX7_place 120 = .ok (.invokestatic 110, 3) := by decide +kernel
theorem dX7_place_123 : decode cX7_place 123 = .ok (.iaload, 1) := by decide +kernel
theorem dX7_place_124 : decode cX7_place 124 = .ok (.ifCond .lt 10, 3) := by decide +kernel
theorem dX7_place_127 : decode cX7_place 127 = .ok (.aload_n 0, 1) := by decide +kernel
theorem dX7_place_128 : decode cX7_place 128 = .ok (.bipush (-3), 2) := by decide +kernel
theorem dX7_place_130 : decode cX7_place 130 = .ok (.invokevirtual 106, 3) := by decide +kernel
theorem dX7_place_133 : decode cX7_place 133 = .ok (.ireturn, 1) := by decide +kernel
theorem dX7_place_134 : decode cX7_place 134 = .ok (.iinc 10 1, 3) := by decide +kernel
theorem dX7_place_137 : decode cX7_place 137 = .ok (.goto (-39), 3) := by decide +kernel
theorem dX7_place_140 : decode cX7_place 140 = .ok (.iinc 9 1, 3) := by decide +kernel
theorem dX7_place_143 : decode cX7_place 143 = .ok (.goto (-55), 3) := by decide +kernel
theorem dX7_place_146 : decode cX7_place 146 = .ok (.aload_n 0, 1) := by decide +kernel
theorem dX7_place_147 : decode cX7_place 147 = .ok (.getfield 133, 3) := by decide +kernel
theorem dX7_place_150 : decode cX7_place 150 = .ok (.bipush 40, 2) := by decide +kernel
theorem dX7_place_152 : decode cX7_place 152 = .ok (.if_icmp .ne 10, 3) := by decide +kernel
theorem dX7_place_155 : decode cX7_place 155 = .ok (.aload_n 0, 1) := by decide +kernel
theorem dX7_place_156 : decode cX7_place 156 = .ok (.bipush (-6), 2) := by decide +kernel
theorem dX7_place_158 : decode cX7_place 158 = .ok (.invokevirtual 106, 3) := by decide +kernel
theorem dX7_place_161 : decode cX7_place 161 = .ok (.ireturn, 1) := by decide +kernel
theorem dX7_place_162 : decode cX7_place 162 = .ok (.aload_n 0, 1) := by decide +kernel
theorem dX7_place_163 : decode cX7_place 163 = .ok (.iload_n 1, 1) := by decide +kernel
theorem dX7_place_164 : decode cX7_place 164 = .ok (.iload_n 2, 1) := by decide +kernel
theorem dX7_place_165 : decode cX7_place 165 = .ok (.iload_n 3, 1) := by decide +kernel
theorem dX7_place_166 : decode cX7_place 166 = .ok (.iload 4, 2) := by decide +kernel
theorem dX7_place_168 : decode cX7_place 168 = .ok (.iload 5, 2) := by decide +kernel
theorem dX7_place_170 : decode cX7_place 170 = .ok (.iload 6, 2) := by decide +kernel
theorem dX7_place_172 : decode cX7_place 172 = .ok (.invokevirtual 144, 3) := by decide +kernel
theorem dX7_place_175 : decode cX7_place 175 = .ok (.aload_n 0, 1) := by decide +kernel
theorem dX7_place_176 : decode cX7_place 176 = .ok (.getfield 133, 3) := by decide +kernel
theorem dX7_place_179 : decode cX7_place 179 = .ok (.iconst 1, 1) := by decide +kernel
theorem dX7_place_180 : decode cX7_place 180 = .ok (.isub, 1) := by decide +kernel
theorem dX7_place_181 : decode cX7_place 181 = .ok (.ireturn, 1) := by decide +kernel
theorem dX7_isBrick_0 : decode cX7_isBrick 0 = .ok (.iload_n 1, 1) := by decide +kernel
theorem dX7_isBrick_1 : decode cX7_isBrick 1 = .ok (.aload_n 0, 1) := by decide +kernel
theorem dX7_isBrick_2 : decode cX7_isBrick 2 = .ok (.getfield 133, 3) := by decide +kernel
theorem dX7_isBrick_5 : decode cX7_isBrick 5 = .ok (.invokestatic 98, 3) := by decide +kernel
theorem dX7_isBrick_8 : decode cX7_isBrick 8 = .ok (.ireturn, 1) := by decide +kernel
theorem dX7_isThere_0 : decode cX7_isThere 0 = .ok (.aload_n 0, 1) := by decide +kernel
theorem dX7_isThere_1 : decode cX7_isThere 1 = .ok (.getfield 140, 3) := by decide +kernel
theorem dX7_isThere_4 : decode cX7_isThere 4 = .ok (.iload_n 1, 1) := by decide +kernel
theorem dX7_isThere_5 : decode cX7_isThere 5 = .ok (.lshr, 1) := by decide +kernel
theorem dX7_isThere_6 : decode cX7_isThere 6 = .ok (.lconst 1, 1) := by decide +kernel
theorem dX7_isThere_7 : decode cX7_isThere 7 = .ok (.land, 1) := by decide +kernel
theorem dX7_isThere_8 : decode cX7_isThere 8 = .ok (.lconst 1, 1) := by decide +kernel
theorem dX7_isThere_9 : decode cX7_isThere 9 = .ok (.lcmp, 1) := by decide +kernel
theorem dX7_isThere_10 : decode cX7_isThere 10 = .ok (.ifCond .ne 7, 3) := by decide +kernel
theorem dX7_isThere_13 : decode cX7_isThere 13 = .ok (.iconst 1, 1) := by decide +kernel
theorem dX7_isThere_14 : decode cX7_isThere 14 = .ok (.goto 4, 3) := by decide +kernel
theorem dX7_isThere_17 : decode cX7_isThere 17 = .ok (.iconst 0, 1) := by decide +kernel
theorem dX7_isThere_18 : decode cX7_isThere 18 = .ok (.ireturn, 1) := by decide +kernel
theorem dX7_take_0 : decode cX7_take 0 = .ok (.aload_n 0, 1) := by decide +kernel
theorem dX7_take_1 : decode cX7_take 1 = .ok (.iload_n 1, 1) := by decide +kernel
theorem dX7_take_2 : decode cX7_take 2 = .ok (.invokevirtual 148, 3) := by decide +kernel
theorem dX7_take_5 : decode cX7_take 5 = .ok (.ifCond .ne 9, 3) := by decide +kernel
theorem dX7_take_8 : decode cX7_take 8 = .ok (.aload_n 0, 1) := by decide +kernel
theorem dX7_take_9 : decode cX7_take 9 = .ok (.iconst (-1), 1) := by decide +kernel
theorem dX7_take_10 : decode cX7_take 10 = .ok (.invokevirtual 106, 3) := by decide +kernel
theorem dX7_take_13 : decode cX7_take 13 = .ok (.ireturn, 1) := by decide +kernel
theorem dX7_take_14 : decode cX7_take 14 = .ok (.aload_n 0, 1) := by decide +kernel
theorem dX7_take_15 : decode cX7_take 15 = .ok (.iload_n 1, 1) := by decide +kernel
theorem dX7_take_16 : decode cX7_take 16 = .ok (.invokevirtual 152, 3) := by decide +kernel
theorem dX7_take_19 : decode cX7_take 19 = .ok (.ifCond .ne 10, 3) := by decide +kernel
theorem dX7_take_22 : decode cX7_take 22 = .ok (.aload_n 0, 1) := by decide +kernel
theorem dX7_take_23 : decode cX7_take 23 = .ok (.bipush (-3), 2) := by decide +kernel
theorem dX7_take_25 : decode cX7_take 25 = .ok (.invokevirtual 106, 3) := by decide +kernel
theorem dX7_take_28 : decode cX7_take 28 = .ok (.ireturn, 1) := by decide +kernel
theorem dX7_take_29 : decode cX7_take 29 = .ok (.aload_n 0, 1) := by decide +kernel
theorem dX7_take_30 : decode cX7_take 30 = .ok (.iload_n 1, 1) := by decide +kernel
theorem dX7_take_31 : decode cX7_take 31 = .ok (.bipush (-9), 2) := by decide +kernel
theorem dX7_take_33 : decode cX7_take 33 = .ok (.invokevirtual 136, 3) := by decide +kernel
theorem dX7_take_36 : decode cX7_take 36 = .ok (.aload_n 0, 1) := by decide +kernel
theorem dX7_take_37 : decode cX7_take 37 = .ok (.dup, 1) := by decide +kernel
theorem dX7_take_38 : decode cX7_take 38 = .ok (.getfield 140, 3) := by decide +kernel
theorem dX7_take_41 : decode cX7_take 41 = .ok (.lconst 1, 1) := by decide +kernel
theorem dX7_take_42 : decode cX7_take 42 = .ok (.iload_n 1, 1) := by decide +kernel
theorem dX7_take_43 : decode cX7_take 43 = .ok (.lshl, 1) := by decide +kernel
theorem dX7_take_44 : decode cX7_take 44 = .ok (.ldc2_w 155, 3) := by decide +kernel
theorem dX7_take_47 : decode cX7_take 47 = .ok (.lxor, 1) := by decide +kernel
theorem dX7_take_48 : decode cX7_take 48 = .ok (.land, 1) := by decide +kernel
theorem dX7_take_49 : decode cX7_take 49 = .ok (.putfield 140, 3) := by decide +kernel
theorem dX7_take_52 : decode cX7_take 52 = .ok (.iconst 1, 1) := by decide +kernel
theorem dX7_take_53 : decode cX7_take 53 = .ok (.ireturn, 1) := by decide +kernel
theorem dX7_at_0 : decode cX7_at 0 = .ok (.iload_n 1, 1) := by decide +kernel
theorem dX7_at_1 : decode cX7_at 1 = .ok (.iload_n 2, 1) := by decide +kernel
theorem dX7_at_2 : decode cX7_at 2 = .ok (.iload_n 3, 1) := by decide +kernel
theorem dX7_at_3 : decode cX7_at 3 = .ok (.invokestatic 102, 3) := by decide +kernel
theorem dX7_at_6 : decode cX7_at 6 = .ok (.ifCond .eq 17, 3) := by decide +kernel
theorem dX7_at_9 : decode cX7_at 9 = .ok (.aload_n 0, 1) := by decide +kernel
theorem dX7_at_10 : decode cX7_at 10 = .ok (.getfield 16, 3) := by decide +kernel
theorem dX7_at_13 : decode cX7_at 13 = .ok (.iload_n 1, 1) := by decide +kernel
theorem dX7_at_14 : decode cX7_at 14 = .ok (.iload_n 2, 1) := by decide +kernel
theorem dX7_at_15 : decode cX7_at 15 = .ok (.iload_n 3, 1) := by decide +kernel
theorem dX7_at_16 : decode cX7_at 16 = .ok (.invokestatic 110, 3) := by decide +kernel
theorem dX7_at_19 : decode cX7_at 19 = .ok (.iaload, 1) := by decide +kernel
theorem dX7_at_20 : decode cX7_at 20 = .ok (.goto 8, 3) := by decide +kernel
theorem dX7_at_23 : decode cX7_at 23 = .ok (.aload_n 0, 1) := by decide +kernel
theorem dX7_at_24 : decode cX7_at 24 = .ok (.iconst (-1), 1) := by decide +kernel
theorem dX7_at_25 : decode cX7_at 25 = .ok (.invokevirtual 106, 3) := by decide +kernel
theorem dX7_at_28 : decode cX7_at 28 = .ok (.ireturn, 1) := by decide +kernel
theorem dX7_studsOf_0 : decode cX7_studsOf 0 = .ok (.aload_n 0, 1) := by decide +kernel
theorem dX7_studsOf_1 : decode cX7_studsOf 1 = .ok (.getfield 34, 3) := by decide +kernel
theorem dX7_studsOf_4 : decode cX7_studsOf 4 = .ok (.iload_n 1, 1) := by decide +kernel
theorem dX7_studsOf_5 : decode cX7_studsOf 5 = .ok (.iaload, 1) := by decide +kernel
theorem dX7_studsOf_6 : decode cX7_studsOf 6 = .ok (.aload_n 0, 1) := by decide +kernel
theorem dX7_studsOf_7 : decode cX7_studsOf 7 = .ok (.getfield 34, 3) := by decide +kernel
theorem dX7_studsOf_10 : decode cX7_studsOf 10 = .ok (.iload_n 2, 1) := by decide +kernel
theorem dX7_studsOf_11 : decode cX7_studsOf 11 = .ok (.iaload, 1) := by decide +kernel
theorem dX7_studsOf_12 : decode cX7_studsOf 12 = .ok (.isub, 1) := by decide +kernel
theorem dX7_studsOf_13 : decode cX7_studsOf 13 = .ok (.invokestatic 157, 3) := by decide +kernel
theorem dX7_studsOf_16 : decode cX7_studsOf 16 = .ok (.iconst 1, 1) := by decide +kernel
theorem dX7_studsOf_17 : decode cX7_studsOf 17 = .ok (.if_icmp .eq 5, 3) := by decide +kernel
theorem dX7_studsOf_20 : decode cX7_studsOf 20 = .ok (.iconst 0, 1) := by decide +kernel
theorem dX7_studsOf_21 : decode cX7_studsOf 21 = .ok (.ireturn, 1) := by decide +kernel
theorem dX7_studsOf_22 : decode cX7_studsOf 22 = .ok (.aload_n 0, 1) := by decide +kernel
theorem dX7_studsOf_23 : decode cX7_studsOf 23 = .ok (.getfield 28, 3) := by decide +kernel
theorem dX7_studsOf_26 : decode cX7_studsOf 26 = .ok (.iload_n 1, 1) := by decide +kernel
theorem dX7_studsOf_27 : decode cX7_studsOf 27 = .ok (.iaload, 1) := by decide +kernel
theorem dX7_studsOf_28 : decode cX7_studsOf 28 = .ok (.aload_n 0, 1) := by decide +kernel
theorem dX7_studsOf_29 : decode cX7_studsOf 29 = .ok (.getfield 22, 3) := by decide +kernel
theorem dX7_studsOf_32 : decode cX7_studsOf 32 = .ok (.iload_n 1, 1) := by decide +kernel
theorem dX7_studsOf_33 : decode cX7_studsOf 33 = .ok (.iaload, 1) := by decide +kernel
theorem dX7_studsOf_34 : decode cX7_studsOf 34 = .ok (.aload_n 0, 1) := by decide +kernel
theorem dX7_studsOf_35 : decode cX7_studsOf 35 = .ok (.getfield 25, 3) := by decide +kernel
theorem dX7_studsOf_38 : decode cX7_studsOf 38 = .ok (.iload_n 1, 1) := by decide +kernel
theorem dX7_studsOf_39 : decode cX7_studsOf 39 = .ok (.iaload, 1) := by decide +kernel
theorem dX7_studsOf_40 : decode cX7_studsOf 40 = .ok (.invokestatic 130, 3) := by decide +kernel
theorem dX7_studsOf_43 : decode cX7_studsOf 43 = .ok (.iadd, 1) := by decide +kernel
theorem dX7_studsOf_44 : decode cX7_studsOf 44 = .ok (.aload_n 0, 1) := by decide +kernel
theorem dX7_studsOf_45 : decode cX7_studsOf 45 = .ok (.getfield 28, 3) := by decide +kernel
theorem dX7_studsOf_48 : decode cX7_studsOf 48 = .ok (.iload_n 2, 1) := by decide +kernel
theorem dX7_studsOf_49 : decode cX7_studsOf 49 = .ok (.iaload, 1) := by decide +kernel
theorem dX7_studsOf_50 : decode cX7_studsOf 50 = .ok (.aload_n 0, 1) := by decide +kernel
theorem dX7_studsOf_51 : decode cX7_studsOf 51 = .ok (.getfield 22, 3) := by decide +kernel
theorem dX7_studsOf_54 : decode cX7_studsOf 54 = .ok (.iload_n 2, 1) := by decide +kernel
theorem dX7_studsOf_55 : decode cX7_studsOf 55 = .ok (.iaload, 1) := by decide +kernel
theorem dX7_studsOf_56 : decode cX7_studsOf 56 = .ok (.aload_n 0, 1) := by decide +kernel
theorem dX7_studsOf_57 : decode cX7_studsOf 57 = .ok (.getfield 25, 3) := by decide +kernel
theorem dX7_studsOf_60 : decode cX7_studsOf 60 = .ok (.iload_n 2, 1) := by decide +kernel
theorem dX7_studsOf_61 : decode cX7_studsOf 61 = .ok (.iaload, 1) := by decide +kernel
theorem dX7_studsOf_62 : decode cX7_studsOf 62 = .ok (.invokestatic 130, 3) := by decide +kernel
theorem dX7_studsOf_65 : decode cX7_studsOf 65 = .ok (.iadd, 1) := by decide +kernel
theorem dX7_studsOf_66 : decode cX7_studsOf 66 = .ok (.invokestatic 162, 3) := by decide +kernel
theorem dX7_studsOf_69 : decode cX7_studsOf 69 = .ok (.aload_n 0, 1) := by decide +kernel
theorem dX7_studsOf_70 : decode cX7_studsOf 70 = .ok (.getfield 28, 3) := by decide +kernel
theorem dX7_studsOf_73 : decode cX7_studsOf 73 = .ok (.iload_n 1, 1) := by decide +kernel
theorem dX7_studsOf_74 : decode cX7_studsOf 74 = .ok (.iaload, 1) := by decide +kernel
theorem dX7_studsOf_75 : decode cX7_studsOf 75 = .ok (.aload_n 0, 1) := by decide +kernel
theorem dX7_studsOf_76 : decode cX7_studsOf 76 = .ok (.getfield 28, 3) := by decide +kernel
theorem dX7_studsOf_79 : decode cX7_studsOf 79 = .ok (.iload_n 2, 1) := by decide +kernel
theorem dX7_studsOf_80 : decode cX7_studsOf 80 = .ok (.iaload, 1) := by decide +kernel
theorem dX7_studsOf_81 : decode cX7_studsOf 81 = .ok (.invokestatic 165, 3) := by decide +kernel
theorem dX7_studsOf_84 : decode cX7_studsOf 84 = .ok (.isub, 1) := by decide +kernel
theorem dX7_studsOf_85 : decode cX7_studsOf 85 = .ok (.istore_n 3, 1) := by decide +kernel
theorem dX7_studsOf_86 : decode cX7_studsOf 86 = .ok (.aload_n 0, 1) := by decide +kernel
theorem dX7_studsOf_87 : decode cX7_studsOf 87 = .ok (.getfield 31, 3) := by decide +kernel
theorem dX7_studsOf_90 : decode cX7_studsOf 90 = .ok (.iload_n 1, 1) := by decide +kernel
theorem dX7_studsOf_91 : decode cX7_studsOf 91 = .ok (.iaload, 1) := by decide +kernel
theorem dX7_studsOf_92 : decode cX7_studsOf 92 = .ok (.aload_n 0, 1) := by decide +kernel
theorem dX7_studsOf_93 : decode cX7_studsOf 93 = .ok (.getfield 22, 3) := by decide +kernel
theorem dX7_studsOf_96 : decode cX7_studsOf 96 = .ok (.iload_n 1, 1) := by decide +kernel
theorem dX7_studsOf_97 : decode cX7_studsOf 97 = .ok (.iaload, 1) := by decide +kernel
theorem dX7_studsOf_98 : decode cX7_studsOf 98 = .ok (.aload_n 0, 1) := by decide +kernel
theorem dX7_studsOf_99 : decode cX7_studsOf 99 = .ok (.getfield 25, 3) := by decide +kernel
theorem dX7_studsOf_102 : decode cX7_studsOf 102 = .ok (.iload_n 1, 1) := by decide +kernel
theorem dX7_studsOf_103 : decode cX7_studsOf 103 = .ok (.iaload, 1) := by decide +kernel
theorem dX7_studsOf_104 : decode cX7_studsOf 104 = .ok (.invokestatic 126, 3) := by decide +kernel
theorem dX7_studsOf_107 : decode cX7_studsOf 107 = .ok (.iadd, 1) := by decide +kernel
theorem dX7_studsOf_108 : decode cX7_studsOf 108 = .ok (.aload_n 0, 1) := by decide +kernel
theorem dX7_studsOf_109 : decode cX7_studsOf 109 = .ok (.getfield 31, 3) := by decide +kernel
theorem dX7_studsOf_112 : decode cX7_studsOf 112 = .ok (.iload_n 2, 1) := by decide +kernel
theorem dX7_studsOf_113 : decode cX7_studsOf 113 = .ok (.iaload, 1) := by decide +kernel
theorem dX7_studsOf_114 : decode cX7_studsOf 114 = .ok (.aload_n 0, 1) := by decide +kernel
theorem dX7_studsOf_115 : decode cX7_studsOf 115 = .ok (.getfield 22, 3) := by decide +kernel
theorem dX7_studsOf_118 : decode cX7_studsOf 118 = .ok (.iload_n 2, 1) := by decide +kernel
theorem dX7_studsOf_119 : decode cX7_studsOf 119 = .ok (.iaload, 1) := by decide +kernel
theorem dX7_studsOf_120 : decode cX7_studsOf 120 = .ok (.aload_n 0, 1) := by decide +kernel
theorem dX7_studsOf_121 : decode cX7_studsOf 121 = .ok (.getfield 25, 3) := by decide +kernel
theorem dX7_studsOf_124 : decode cX7_studsOf 124 = .ok (.iload_n 2, 1) := by decide +kernel
theorem dX7_studsOf_125 : decode cX7_studsOf 125 = .ok (.iaload, 1) := by decide +kernel
theorem dX7_studsOf_126 : decode cX7_studsOf 126 = .ok (.invokestatic 126, 3) := by decide +kernel
theorem dX7_studsOf_129 : decode cX7_studsOf 129 = .ok (.iadd, 1) := by decide +kernel
theorem dX7_studsOf_130 : decode cX7_studsOf 130 = .ok (.invokestatic 162, 3) := by decide +kernel
theorem dX7_studsOf_133 : decode cX7_studsOf 133 = .ok (.aload_n 0, 1) := by decide +kernel
theorem dX7_studsOf_134 : decode cX7_studsOf 134 = .ok (.getfield 31, 3) := by decide +kernel
theorem dX7_studsOf_137 : decode cX7_studsOf 137 = .ok (.iload_n 1, 1) := by decide +kernel
theorem dX7_studsOf_138 : decode cX7_studsOf 138 = .ok (.iaload, 1) := by decide +kernel
theorem dX7_studsOf_139 : decode cX7_studsOf 139 = .ok (.aload_n 0, 1) := by decide +kernel
theorem dX7_studsOf_140 : decode cX7_studsOf 140 = .ok (.getfield 31, 3) := by decide +kernel
theorem dX7_studsOf_143 : decode cX7_studsOf 143 = .ok (.iload_n 2, 1) := by decide +kernel
theorem dX7_studsOf_144 : decode cX7_studsOf 144 = .ok (.iaload, 1) := by decide +kernel
theorem dX7_studsOf_145 : decode cX7_studsOf 145 = .ok (.invokestatic 165, 3) := by decide +kernel
theorem dX7_studsOf_148 : decode cX7_studsOf 148 = .ok (.isub, 1) := by decide +kernel
theorem dX7_studsOf_149 : decode cX7_studsOf 149 = .ok (.istore 4, 2) := by decide +kernel
theorem dX7_studsOf_151 : decode cX7_studsOf 151 = .ok (.iload_n 3, 1) := by decide +kernel
theorem dX7_studsOf_152 : decode cX7_studsOf 152 = .ok (.ifCond .le 15, 3) := by decide +kernel
theorem dX7_studsOf_155 : decode cX7_studsOf 155 = .ok (.iload 4, 2) := by decide +kernel
theorem dX7_studsOf_157 : decode cX7_studsOf 157 = .ok (.ifCond .le 10, 3) := by decide +kernel
theorem dX7_studsOf_160 : decode cX7_studsOf 160 = .ok (.iload_n 3, 1) := by decide +kernel
theorem dX7_studsOf_161 : decode cX7_studsOf 161 = .ok (.iload 4, 2) := by decide +kernel
theorem dX7_studsOf_163 : decode cX7_studsOf 163 = .ok (.imul, 1) := by decide +kernel
theorem dX7_studsOf_164 : decode cX7_studsOf 164 = .ok (.goto 4, 3) := by decide +kernel
theorem dX7_studsOf_167 : decode cX7_studsOf 167 = .ok (.iconst 0, 1) := by decide +kernel
theorem dX7_studsOf_168 : decode cX7_studsOf 168 = .ok (.ireturn, 1) := by decide +kernel
theorem dX7_studs_0 : decode cX7_studs 0 = .ok (.aload_n 0, 1) := by decide +kernel
theorem dX7_studs_1 : decode cX7_studs 1 = .ok (.iload_n 1, 1) := by decide +kernel
theorem dX7_studs_2 : decode cX7_studs 2 = .ok (.invokevirtual 148, 3) := by decide +kernel
theorem dX7_studs_5 : decode cX7_studs 5 = .ok (.ifCond .eq 16, 3) := by decide +kernel
theorem dX7_studs_8 : decode cX7_studs 8 = .ok (.aload_n 0, 1) := by decide +kernel
theorem dX7_studs_9 : decode cX7_studs 9 = .ok (.iload_n 2, 1) := by decide +kernel
theorem dX7_studs_10 : decode cX7_studs 10 = .ok (.invokevirtual 148, 3) := by decide +kernel
theorem dX7_studs_13 : decode cX7_studs 13 = .ok (.ifCond .eq 8, 3) := by decide +kernel
theorem dX7_studs_16 : decode cX7_studs 16 = .ok (.iload_n 1, 1) := by decide +kernel
theorem dX7_studs_17 : decode cX7_studs 17 = .ok (.iload_n 2, 1) := by decide +kernel
theorem dX7_studs_18 : decode cX7_studs 18 = .ok (.if_icmp .ne 9, 3) := by decide +kernel
theorem dX7_studs_21 : decode cX7_studs 21 = .ok (.aload_n 0, 1) := by decide +kernel
theorem dX7_studs_22 : decode cX7_studs 22 = .ok (.iconst (-1), 1) := by decide +kernel
theorem dX7_studs_23 : decode cX7_studs 23 = .ok (.invokevirtual 106, 3) := by decide +kernel
theorem dX7_studs_26 : decode cX7_studs 26 = .ok (.ireturn, 1) := by decide +kernel
theorem dX7_studs_27 : decode cX7_studs 27 = .ok (.aload_n 0, 1) := by decide +kernel
theorem dX7_studs_28 : decode cX7_studs 28 = .ok (.iload_n 1, 1) := by decide +kernel
theorem dX7_studs_29 : decode cX7_studs 29 = .ok (.invokevirtual 152, 3) := by decide +kernel
theorem dX7_studs_32 : decode cX7_studs 32 = .ok (.ifCond .eq 20, 3) := by decide +kernel
theorem dX7_studs_35 : decode cX7_studs 35 = .ok (.aload_n 0, 1) := by decide +kernel
theorem dX7_studs_36 : decode cX7_studs 36 = .ok (.iload_n 2, 1) := by decide +kernel
theorem dX7_studs_37 : decode cX7_studs 37 = .ok (.invokevirtual 152, 3) := by decide +kernel
theorem dX7_studs_40 : decode cX7_studs 40 = .ok (.ifCond .eq 12, 3) := by decide +kernel
theorem dX7_studs_43 : decode cX7_studs 43 = .ok (.aload_n 0, 1) := by decide +kernel
theorem dX7_studs_44 : decode cX7_studs 44 = .ok (.iload_n 1, 1) := by decide +kernel
theorem dX7_studs_45 : decode cX7_studs 45 = .ok (.iload_n 2, 1) := by decide +kernel
theorem dX7_studs_46 : decode cX7_studs 46 = .ok (.invokevirtual 168, 3) := by decide +kernel
theorem dX7_studs_49 : decode cX7_studs 49 = .ok (.goto 9, 3) := by decide +kernel
theorem dX7_studs_52 : decode cX7_studs 52 = .ok (.aload_n 0, 1) := by decide +kernel
theorem dX7_studs_53 : decode cX7_studs 53 = .ok (.bipush (-3), 2) := by decide +kernel
theorem dX7_studs_55 : decode cX7_studs 55 = .ok (.invokevirtual 106, 3) := by decide +kernel
theorem dX7_studs_58 : decode cX7_studs 58 = .ok (.ireturn, 1) := by decide +kernel
theorem dX7_links_0 : decode cX7_links 0 = .ok (.iconst 0, 1) := by decide +kernel
theorem dX7_links_1 : decode cX7_links 1 = .ok (.istore_n 1, 1) := by decide +kernel
theorem dX7_links_2 : decode cX7_links 2 = .ok (.iload_n 1, 1) := by decide +kernel
theorem dX7_links_3 : decode cX7_links 3 = .ok (.aload_n 0, 1) := by decide +kernel
theorem dX7_links_4 : decode cX7_links 4 = .ok (.getfield 133, 3) := by decide +kernel
theorem dX7_links_7 : decode cX7_links 7 = .ok (.if_icmp .ge 58, 3) := by decide +kernel
theorem dX7_links_10 : decode cX7_links 10 = .ok (.aload_n 0, 1) := by decide +kernel
theorem dX7_links_11 : decode cX7_links 11 = .ok (.getfield 44, 3) := by decide +kernel
theorem dX7_links_14 : decode cX7_links 14 = .ok (.iload_n 1, 1) := by decide +kernel
theorem dX7_links_15 : decode cX7_links 15 = .ok (.lconst 0, 1) := by decide +kernel
theorem dX7_links_16 : decode cX7_links 16 = .ok (.lastore, 1) := by decide +kernel
theorem dX7_links_17 : decode cX7_links 17 = .ok (.iconst 0, 1) := by decide +kernel
theorem dX7_links_18 : decode cX7_links 18 = .ok (.istore_n 2, 1) := by decide +kernel
theorem dX7_links_19 : decode cX7_links 19 = .ok (.iload_n 2, 1) := by decide +kernel
theorem dX7_links_20 : decode cX7_links 20 = .ok (.aload_n 0, 1) := by decide +kernel
theorem dX7_links_21 : decode cX7_links 21 = .ok (.getfield 133, 3) := by decide +kernel
theorem dX7_links_24 : decode cX7_links 24 = .ok (.if_icmp .ge 35, 3) := by decide +kernel
theorem dX7_links_27 : decode cX7_links 27 = .ok (.iload_n 1, 1) := by decide +kernel
theorem dX7_links_28 : decode cX7_links 28 = .ok (.iload_n 2, 1) := by decide +kernel
theorem dX7_links_29 : decode cX7_links 29 = .ok (.if_icmp .eq 24, 3) := by decide +kernel
theorem dX7_links_32 : decode cX7_links 32 = .ok (.aload_n 0, 1) := by decide +kernel
theorem dX7_links_33 : decode cX7_links 33 = .ok (.iload_n 1, 1) := by decide +kernel
theorem dX7_links_34 : decode cX7_links 34 = .ok (.iload_n 2, 1) := by decide +kernel
theorem dX7_links_35 : decode cX7_links 35 = .ok (.invokevirtual 168, 3) := by decide +kernel
theorem dX7_links_38 : decode cX7_links 38 = .ok (.ifCond .le 15, 3) := by decide +kernel
theorem dX7_links_41 : decode cX7_links 41 = .ok (.aload_n 0, 1) := by decide +kernel
theorem dX7_links_42 : decode cX7_links 42 = .ok (.getfield 44, 3) := by decide +kernel
theorem dX7_links_45 : decode cX7_links 45 = .ok (.iload_n 1, 1) := by decide +kernel
theorem dX7_links_46 : decode cX7_links 46 = .ok (.dup2, 1) := by decide +kernel
theorem dX7_links_47 : decode cX7_links 47 = .ok (.laload, 1) := by decide +kernel
theorem dX7_links_48 : decode cX7_links 48 = .ok (.lconst 1, 1) := by decide +kernel
theorem dX7_links_49 : decode cX7_links 49 = .ok (.iload_n 2, 1) := by decide +kernel
theorem dX7_links_50 : decode cX7_links 50 = .ok (.lshl, 1) := by decide +kernel
theorem dX7_links_51 : decode cX7_links 51 = .ok (.lor, 1) := by decide +kernel
theorem dX7_links_52 : decode cX7_links 52 = .ok (.lastore, 1) := by decide +kernel
theorem dX7_links_53 : decode cX7_links 53 = .ok (.iinc 2 1, 3) := by decide +kernel
theorem dX7_links_56 : decode cX7_links 56 = .ok (.goto (-37), 3) := by decide +kernel
theorem dX7_links_59 : decode cX7_links 59 = .ok (.iinc 1 1, 3) := by decide +kernel
theorem dX7_links_62 : decode cX7_links 62 = .ok (.goto (-60), 3) := by decide +kernel
theorem dX7_links_65 : decode cX7_links 65 = .ok (.return_, 1) := by decide +kernel
theorem dX7_first_0 : decode cX7_first 0 = .ok (.iconst 0, 1) := by decide +kernel
theorem dX7_first_1 : decode cX7_first 1 = .ok (.istore_n 2, 1) := by decide +kernel
theorem dX7_first_2 : decode cX7_first 2 = .ok (.lload_n 0, 1) := by decide +kernel
theorem dX7_first_3 : decode cX7_first 3 = .ok (.iload_n 2, 1) := by decide +kernel
theorem dX7_first_4 : decode cX7_first 4 = .ok (.lshr, 1) := by decide +kernel
theorem dX7_first_5 : decode cX7_first 5 = .ok (.lconst 1, 1) := by decide +kernel
theorem dX7_first_6 : decode cX7_first 6 = .ok (.land, 1) := by decide +kernel
theorem dX7_first_7 : decode cX7_first 7 = .ok (.lconst 0, 1) := by decide +kernel
theorem dX7_first_8 : decode cX7_first 8 = .ok (.lcmp, 1) := by decide +kernel
theorem dX7_first_9 : decode cX7_first 9 = .ok (.ifCond .ne 9, 3) := by decide +kernel
theorem dX7_first_12 : decode cX7_first 12 = .ok (.iinc 2 1, 3) := by decide +kernel
theorem dX7_first_15 : decode cX7_first 15 = .ok (.goto (-13), 3) := by decide +kernel
theorem dX7_first_18 : decode cX7_first 18 = .ok (.iload_n 2, 1) := by decide +kernel
theorem dX7_first_19 : decode cX7_first 19 = .ok (.ireturn, 1) := by decide +kernel
theorem dX7_bits_0 : decode cX7_bits 0 = .ok (.iconst 0, 1) := by decide +kernel
theorem dX7_bits_1 : decode cX7_bits 1 = .ok (.istore_n 2, 1) := by decide +kernel
theorem dX7_bits_2 : decode cX7_bits 2 = .ok (.lload_n 0, 1) := by decide +kernel
theorem dX7_bits_3 : decode cX7_bits 3 = .ok (.lstore_n 3, 1) := by decide +kernel
theorem dX7_bits_4 : decode cX7_bits 4 = .ok (.lload_n 3, 1) := by decide +kernel
theorem dX7_bits_5 : decode cX7_bits 5 = .ok (.lconst 0, 1) := by decide +kernel
theorem dX7_bits_6 : decode cX7_bits 6 = .ok (.lcmp, 1) := by decide +kernel
theorem dX7_bits_7 : decode cX7_bits 7 = .ok (.ifCond .eq 15, 3) := by decide +kernel
theorem dX7_bits_10 : decode cX7_bits 10 = .ok (.iinc 2 1, 3) := by decide +kernel
theorem dX7_bits_13 : decode cX7_bits 13 = .ok (.lload_n 3, 1) := by decide +kernel
theorem dX7_bits_14 : decode cX7_bits 14 = .ok (.lload_n 3, 1) := by decide +kernel
theorem dX7_bits_15 : decode cX7_bits 15 = .ok (.lconst 1, 1) := by decide +kernel
theorem dX7_bits_16 : decode cX7_bits 16 = .ok (.lsub, 1) := by decide +kernel
theorem dX7_bits_17 : decode cX7_bits 17 = .ok (.land, 1) := by decide +kernel
theorem dX7_bits_18 : decode cX7_bits 18 = .ok (.lstore_n 3, 1) := by decide +kernel
theorem dX7_bits_19 : decode cX7_bits 19 = .ok (.goto (-15), 3) := by decide +kernel
theorem dX7_bits_22 : decode cX7_bits 22 = .ok (.iload_n 2, 1) := by decide +kernel
theorem dX7_bits_23 : decode cX7_bits 23 = .ok (.ireturn, 1) := by decide +kernel
theorem dX7_pieceIn_0 : decode cX7_pieceIn 0 = .ok (.lload_n 1, 1) := by decide +kernel
theorem dX7_pieceIn_1 : decode cX7_pieceIn 1 = .ok (.lload_n 1, 1) := by decide +kernel
theorem dX7_pieceIn_2 : decode cX7_pieceIn 2 = .ok (.lneg, 1) := by decide +kernel
theorem dX7_pieceIn_3 : decode cX7_pieceIn 3 = .ok (.land, 1) := by decide +kernel
theorem dX7_pieceIn_4 : decode cX7_pieceIn 4 = .ok (.lstore_n 3, 1) := by decide +kernel
theorem dX7_pieceIn_5 : decode cX7_pieceIn 5 = .ok (.lload_n 3, 1) := by decide +kernel
theorem dX7_pieceIn_6 : decode cX7_pieceIn 6 = .ok (.lstore 5, 2) := by decide +kernel
theorem dX7_pieceIn_8 : decode cX7_pieceIn 8 = .ok (.lload 5, 2) := by decide +kernel
theorem dX7_pieceIn_10 : decode cX7_pieceIn 10 = .ok (.lconst 0, 1) := by decide +kernel
theorem dX7_pieceIn_11 : decode cX7_pieceIn 11 = .ok (.lcmp, 1) := by decide +kernel
theorem dX7_pieceIn_12 : decode cX7_pieceIn 12 = .ok (.ifCond .eq 51, 3) := by decide +kernel
theorem dX7_pieceIn_15 : decode cX7_pieceIn 15 = .ok (.lload 5, 2) := by decide +kernel
theorem dX7_pieceIn_17 : decode cX7_pieceIn 17 = .ok (.invokestatic 171, 3) := by decide +kernel
theorem dX7_pieceIn_20 : decode cX7_pieceIn 20 = .ok (.istore 7, 2) := by decide +kernel
theorem dX7_pieceIn_22 : decode cX7_pieceIn 22 = .ok (.lload 5, 2) := by decide +kernel
theorem dX7_pieceIn_24 : decode cX7_pieceIn 24 = .ok (.lload 5, 2) := by decide +kernel
theorem dX7_pieceIn_26 : decode cX7_pieceIn 26 = .ok (.lconst 1, 1) := by decide +kernel
theorem dX7_pieceIn_27 : decode cX7_pieceIn 27 = .ok (.lsub, 1) := by decide +kernel
theorem dX7_pieceIn_28 : decode cX7_pieceIn 28 = .ok (.land, 1) := by decide +kernel
theorem dX7_pieceIn_29 : decode cX7_pieceIn 29 = .ok (.lstore 5, 2) := by decide +kernel
theorem dX7_pieceIn_31 : decode cX7_pieceIn 31 = .ok (.aload_n 0, 1) := by decide +kernel
theorem dX7_pieceIn_32 : decode cX7_pieceIn 32 = .ok (.getfield 44, 3) := by decide +kernel
theorem dX7_pieceIn_35 : decode cX7_pieceIn 35 = .ok (.iload 7, 2) := by decide +kernel
theorem dX7_pieceIn_37 : decode cX7_pieceIn 37 = .ok (.laload, 1) := by decide +kernel
theorem dX7_pieceIn_38 : decode cX7_pieceIn 38 = .ok (.lload_n 1, 1) := by decide +kernel
theorem dX7_pieceIn_39 : decode cX7_pieceIn 39 = .ok (.land, 1) := by decide +kernel
theorem dX7_pieceIn_40 : decode cX7_pieceIn 40 = .ok (.lload_n 3, 1) := by decide +kernel
theorem dX7_pieceIn_41 : decode cX7_pieceIn 41 = .ok (.ldc2_w 155, 3) := by decide +kernel
theorem dX7_pieceIn_44 : decode cX7_pieceIn 44 = .ok (.lxor, 1) := by decide +kernel
theorem dX7_pieceIn_45 : decode cX7_pieceIn 45 = .ok (.land, 1) := by decide +kernel
theorem dX7_pieceIn_46 : decode cX7_pieceIn 46 = .ok (.lstore 8, 2) := by decide +kernel
theorem dX7_pieceIn_48 : decode cX7_pieceIn 48 = .ok (.lload_n 3, 1) := by decide +kernel
theorem dX7_pieceIn_49 : decode cX7_pieceIn 49 = .ok (.lload 8, 2) := by decide +kernel
theorem dX7_pieceIn_51 : decode cX7_pieceIn 51 = .ok (.lor, 1) := by decide +kernel
theorem dX7_pieceIn_52 : decode cX7_pieceIn 52 = .ok (.lstore_n 3, 1) := by decide +kernel
theorem dX7_pieceIn_53 : decode cX7_pieceIn 53 = .ok (.lload 5, 2) := by decide +kernel
theorem dX7_pieceIn_55 : decode cX7_pieceIn 55 = .ok (.lload 8, 2) := by decide +kernel
theorem dX7_pieceIn_57 : decode cX7_pieceIn 57 = .ok (.lor, 1) := by decide +kernel
theorem dX7_pieceIn_58 : decode cX7_pieceIn 58 = .ok (.lstore 5, 2) := by decide +kernel
theorem dX7_pieceIn_60 : decode cX7_pieceIn 60 = .ok (.goto (-52), 3) := by decide +kernel
theorem dX7_pieceIn_63 : decode cX7_pieceIn 63 = .ok (.lload_n 3, 1) := by decide +kernel
theorem dX7_pieceIn_64 : decode cX7_pieceIn 64 = .ok (.lreturn, 1) := by decide +kernel
theorem dX7_floats_0 : decode cX7_floats 0 = .ok (.iconst 1, 1) := by decide +kernel
theorem dX7_floats_1 : decode cX7_floats 1 = .ok (.istore_n 3, 1) := by decide +kernel
theorem dX7_floats_2 : decode cX7_floats 2 = .ok (.lload_n 1, 1) := by decide +kernel
theorem dX7_floats_3 : decode cX7_floats 3 = .ok (.lstore 4, 2) := by decide +kernel
theorem dX7_floats_5 : decode cX7_floats 5 = .ok (.lload 4, 2) := by decide +kernel
theorem dX7_floats_7 : decode cX7_floats 7 = .ok (.lconst 0, 1) := by decide +kernel
theorem dX7_floats_8 : decode cX7_floats 8 = .ok (.lcmp, 1) := by decide +kernel
theorem dX7_floats_9 : decode cX7_floats 9 = .ok (.ifCond .eq 38, 3) := by decide +kernel
theorem dX7_floats_12 : decode cX7_floats 12 = .ok (.iload_n 3, 1) := by decide +kernel
theorem dX7_floats_13 : decode cX7_floats 13 = .ok (.ifCond .eq 20, 3) := by decide +kernel
theorem dX7_floats_16 : decode cX7_floats 16 = .ok (.aload_n 0, 1) := by decide +kernel
theorem dX7_floats_17 : decode cX7_floats 17 = .ok (.getfield 34, 3) := by decide +kernel
theorem dX7_floats_20 : decode cX7_floats 20 = .ok (.lload 4, 2) := by decide +kernel
theorem dX7_floats_22 : decode cX7_floats 22 = .ok (.invokestatic 171, 3) := by decide +kernel
theorem dX7_floats_25 : decode cX7_floats 25 = .ok (.iaload, 1) := by decide +kernel
theorem dX7_floats_26 : decode cX7_floats 26 = .ok (.ifCond .le 7, 3) := by decide +kernel
theorem dX7_floats_29 : decode cX7_floats 29 = .ok (.iconst 1, 1) := by decide +kernel
theorem dX7_floats_30 : decode cX7_floats 30 = .ok (.goto 4, 3) := by decide +kernel
theorem dX7_floats_33 : decode cX7_floats 33 = .ok (.iconst 0, 1) := by decide +kernel
theorem dX7_floats_34 : decode cX7_floats 34 = .ok (.istore_n 3, 1) := by decide +kernel
theorem dX7_floats_35 : decode cX7_floats 35 = .ok (.lload 4, 2) := by decide +kernel
theorem dX7_floats_37 : decode cX7_floats 37 = .ok (.lload 4, 2) := by decide +kernel
theorem dX7_floats_39 : decode cX7_floats 39 = .ok (.lconst 1, 1) := by decide +kernel
theorem dX7_floats_40 : decode cX7_floats 40 = .ok (.lsub, 1) := by decide +kernel
theorem dX7_floats_41 : decode cX7_floats 41 = .ok (.land, 1) := by decide +kernel
theorem dX7_floats_42 : decode cX7_floats 42 = .ok (.lstore 4, 2) := by decide +kernel
theorem dX7_floats_44 : decode cX7_floats 44 = .ok (.goto (-39), 3) := by decide +kernel
theorem dX7_floats_47 : decode cX7_floats 47 = .ok (.iload_n 3, 1) := by decide +kernel
theorem dX7_floats_48 : decode cX7_floats 48 = .ok (.ireturn, 1) := by decide +kernel
theorem dX7_weight_0 : decode cX7_weight 0 = .ok (.iconst 0, 1) := by decide +kernel
theorem dX7_weight_1 : decode cX7_weight 1 = .ok (.istore_n 3, 1) := by decide +kernel
theorem dX7_weight_2 : decode cX7_weight 2 = .ok (.lload_n 1, 1) := by decide +kernel
theorem dX7_weight_3 : decode cX7_weight 3 = .ok (.lstore 4, 2) := by decide +kernel
theorem dX7_weight_5 : decode cX7_weight 5 = .ok (.lload 4, 2) := by decide +kernel
theorem dX7_weight_7 : decode cX7_weight 7 = .ok (.lconst 0, 1) := by decide +kernel
theorem dX7_weight_8 : decode cX7_weight 8 = .ok (.lcmp, 1) := by decide +kernel
theorem dX7_weight_9 : decode cX7_weight 9 = .ok (.ifCond .eq 27, 3) := by decide +kernel
theorem dX7_weight_12 : decode cX7_weight 12 = .ok (.iload_n 3, 1) := by decide +kernel
theorem dX7_weight_13 : decode cX7_weight 13 = .ok (.aload_n 0, 1) := by decide +kernel
theorem dX7_weight_14 : decode cX7_weight 14 = .ok (.lload 4, 2) := by decide +kernel
theorem dX7_weight_16 : decode cX7_weight 16 = .ok (.invokestatic 171, 3) := by decide +kernel
theorem dX7_weight_19 : decode cX7_weight 19 = .ok (.invokevirtual 175, 3) := by decide +kernel
theorem dX7_weight_22 : decode cX7_weight 22 = .ok (.iadd, 1) := by decide +kernel
theorem dX7_weight_23 : decode cX7_weight 23 = .ok (.istore_n 3, 1) := by decide +kernel
theorem dX7_weight_24 : decode cX7_weight 24 = .ok (.lload 4, 2) := by decide +kernel
theorem dX7_weight_26 : decode cX7_weight 26 = .ok (.lload 4, 2) := by decide +kernel
theorem dX7_weight_28 : decode cX7_weight 28 = .ok (.lconst 1, 1) := by decide +kernel
theorem dX7_weight_29 : decode cX7_weight 29 = .ok (.lsub, 1) := by decide +kernel
theorem dX7_weight_30 : decode cX7_weight 30 = .ok (.land, 1) := by decide +kernel
theorem dX7_weight_31 : decode cX7_weight 31 = .ok (.lstore 4, 2) := by decide +kernel
theorem dX7_weight_33 : decode cX7_weight 33 = .ok (.goto (-28), 3) := by decide +kernel
theorem dX7_weight_36 : decode cX7_weight 36 = .ok (.iload_n 3, 1) := by decide +kernel
theorem dX7_weight_37 : decode cX7_weight 37 = .ok (.ireturn, 1) := by decide +kernel
theorem dX7_stands_0 : decode cX7_stands 0 = .ok (.iconst 0, 1) := by decide +kernel
theorem dX7_stands_1 : decode cX7_stands 1 = .ok (.istore_n 3, 1) := by decide +kernel
theorem dX7_stands_2 : decode cX7_stands 2 = .ok (.iload_n 3, 1) := by decide +kernel
theorem dX7_stands_3 : decode cX7_stands 3 = .ok (.bipush 6, 2) := by decide +kernel
theorem dX7_stands_5 : decode cX7_stands 5 = .ok (.if_icmp .gt 24, 3) := by decide +kernel
theorem dX7_stands_8 : decode cX7_stands 8 = .ok (.aload_n 0, 1) := by decide +kernel
theorem dX7_stands_9 : decode cX7_stands 9 = .ok (.getfield 48, 3) := by decide +kernel
theorem dX7_stands_12 : decode cX7_stands 12 = .ok (.iload_n 3, 1) := by decide +kernel
theorem dX7_stands_13 : decode cX7_stands 13 = .ok (.bipush 7, 2) := by decide +kernel
theorem dX7_stands_15 : decode cX7_stands 15 = .ok (.iastore, 1) := by decide +kernel
theorem dX7_stands_16 : decode cX7_stands 16 = .ok (.aload_n 0, 1) := by decide +kernel
theorem dX7_stands_17 : decode cX7_stands 17 = .ok (.getfield 51, 3) := by decide +kernel
theorem dX7_stands_20 : decode cX7_stands 20 = .ok (.iload_n 3, 1) := by decide +kernel
theorem dX7_stands_21 : decode cX7_stands 21 = .ok (.iconst (-1), 1) := by decide +kernel
theorem dX7_stands_22 : decode cX7_stands 22 = .ok (.iastore, 1) := by decide +kernel
theorem dX7_stands_23 : decode cX7_stands 23 = .ok (.iinc 3 1, 3) := by decide +kernel
theorem dX7_stands_26 : decode cX7_stands 26 = .ok (.goto (-24), 3) := by decide +kernel
theorem dX7_stands_29 : decode cX7_stands 29 = .ok (.lconst 0, 1) := by decide +kernel
theorem dX7_stands_30 : decode cX7_stands 30 = .ok (.lstore_n 3, 1) := by decide +kernel
theorem dX7_stands_31 : decode cX7_stands 31 = .ok (.lconst 0, 1) := by decide +kernel
theorem dX7_stands_32 : decode cX7_stands 32 = .ok (.lstore 5, 2) := by decide +kernel
theorem dX7_stands_34 : decode cX7_stands 34 = .ok (.lload_n 1, 1) := by decide +kernel
theorem dX7_stands_35 : decode cX7_stands 35 = .ok (.lstore 7, 2) := by decide +kernel
theorem dX7_stands_37 : decode cX7_stands 37 = .ok (.lload 7, 2) := by decide +kernel
theorem dX7_stands_39 : decode cX7_stands 39 = .ok (.lconst 0, 1) := by decide +kernel
theorem dX7_stands_40 : decode cX7_stands 40 = .ok (.lcmp, 1) := by decide +kernel
theorem dX7_stands_41 : decode cX7_stands 41 = .ok (.ifCond .eq 204, 3) := by decide +kernel
theorem dX7_stands_44 : decode cX7_stands 44 = .ok (.lload 7, 2) := by decide +kernel
theorem dX7_stands_46 : decode cX7_stands 46 = .ok (.invokestatic 171, 3) := by decide +kernel
theorem dX7_stands_49 : decode cX7_stands 49 = .ok (.istore 9, 2) := by decide +kernel
theorem dX7_stands_51 : decode cX7_stands 51 = .ok (.aload_n 0, 1) := by decide +kernel
theorem dX7_stands_52 : decode cX7_stands 52 = .ok (.getfield 22, 3) := by decide +kernel
theorem dX7_stands_55 : decode cX7_stands 55 = .ok (.iload 9, 2) := by decide +kernel
theorem dX7_stands_57 : decode cX7_stands 57 = .ok (.iaload, 1) := by decide +kernel
theorem dX7_stands_58 : decode cX7_stands 58 = .ok (.aload_n 0, 1) := by decide +kernel
theorem dX7_stands_59 : decode cX7_stands 59 = .ok (.getfield 25, 3) := by decide +kernel
theorem dX7_stands_62 : decode cX7_stands 62 = .ok (.iload 9, 2) := by decide +kernel
theorem dX7_stands_64 : decode cX7_stands 64 = .ok (.iaload, 1) := by decide +kernel
theorem dX7_stands_65 : decode cX7_stands 65 = .ok (.invokestatic 130, 3) := by decide +kernel
theorem dX7_stands_68 : decode cX7_stands 68 = .ok (.istore 10, 2) := by decide +kernel
theorem dX7_stands_70 : decode cX7_stands 70 = .ok (.aload_n 0, 1) := by decide +kernel
theorem dX7_stands_71 : decode cX7_stands 71 = .ok (.getfield 22, 3) := by decide +kernel
theorem dX7_stands_74 : decode cX7_stands 74 = .ok (.iload 9, 2) := by decide +kernel
theorem dX7_stands_76 : decode cX7_stands 76 = .ok (.iaload, 1) := by decide +kernel
theorem dX7_stands_77 : decode cX7_stands 77 = .ok (.aload_n 0, 1) := by decide +kernel
theorem dX7_stands_78 : decode cX7_stands 78 = .ok (.getfield 25, 3) := by decide +kernel
theorem dX7_stands_81 : decode cX7_stands 81 = .ok (.iload 9, 2) := by decide +kernel
theorem dX7_stands_83 : decode cX7_stands 83 = .ok (.iaload, 1) := by decide +kernel
theorem dX7_stands_84 : decode cX7_stands 84 = .ok (.invokestatic 126, 3) := by decide +kernel
theorem dX7_stands_87 : decode cX7_stands 87 = .ok (.istore 11, 2) := by decide +kernel
theorem dX7_stands_89 : decode cX7_stands 89 = .ok (.lload_n 3, 1) := by decide +kernel
theorem dX7_stands_90 : decode cX7_stands 90 = .ok (.iload 11, 2) := by decide +kernel
theorem dX7_stands_92 : decode cX7_stands 92 = .ok (.i2l, 1) := by decide +kernel
theorem dX7_stands_93 : decode cX7_stands 93 = .ok (.iload 10, 2) := by decide +kernel
theorem dX7_stands_95 : decode cX7_stands 95 = .ok (.i2l, 1) := by decide +kernel
theorem dX7_stands_96 : decode cX7_stands 96 = .ok (.lmul, 1) := by decide +kernel
theorem dX7_stands_97 : decode cX7_stands 97 = .ok (.iconst 2, 1) := by decide +kernel
theorem dX7_stands_98 : decode cX7_stands 98 = .ok (.aload_n 0, 1) := by decide +kernel
theorem dX7_stands_99 : decode cX7_stands 99 = .ok (.getfield 28, 3) := by decide +kernel
theorem dX7_stands_102 : decode cX7_stands 102 = .ok (.iload 9, 2) := by decide +kernel
theorem dX7_stands_104 : decode cX7_stands 104 = .ok (.iaload, 1) := by decide +kernel
theorem dX7_stands_105 : decode cX7_stands 105 = .ok (.imul, 1) := by decide +kernel
theorem dX7_stands_106 : decode cX7_stands 106 = .ok (.iload 10, 2) := by decide +kernel
theorem dX7_stands_108 : decode cX7_stands 108 = .ok (.iadd, 1) := by decide +kernel
theorem dX7_stands_109 : decode cX7_stands 109 = .ok (.i2l, 1) := by decide +kernel
theorem dX7_stands_110 : decode cX7_stands 110 = .ok (.lmul, 1) := by decide +kernel
theorem dX7_stands_111 : decode cX7_stands 111 = .ok (.ladd, 1) := by decide +kernel
theorem dX7_stands_112 : decode cX7_stands 112 = .ok (.lstore_n 3, 1) := by decide +kernel
theorem dX7_stands_113 : decode cX7_stands 113 = .ok (.lload 5, 2) := by decide +kernel
theorem dX7_stands_115 : decode cX7_stands 115 = .ok (.iload 11, 2) := by decide +kernel
theorem dX7_stands_117 : decode cX7_stands 117 = .ok (.i2l, 1) := by decide +kernel
theorem dX7_stands_118 : decode cX7_stands 118 = .ok (.iload 10, 2) := by decide +kernel
theorem dX7_stands_120 : decode cX7_stands 120 = .ok (.i2l, 1) := by decide +kernel
theorem dX7_stands_121 : decode cX7_stands 121 = .ok (.lmul, 1) := by decide +kernel
theorem dX7_stands_122 : decode cX7_stands 122 = .ok (.iconst 2, 1) := by decide +kernel
theorem dX7_stands_123 : decode cX7_stands 123 = .ok (.aload_n 0, 1) := by decide +kernel
theorem dX7_stands_124 : decode cX7_stands 124 = .ok (.getfield 31, 3) := by decide +kernel
theorem dX7_stands_127 : decode cX7_stands 127 = .ok (.iload 9, 2) := by decide +kernel
theorem dX7_stands_129 : decode cX7_stands 129 = .ok (.iaload, 1) := by decide +kernel
theorem dX7_stands_130 : decode cX7_stands 130 = .ok (.imul, 1) := by decide +kernel
theorem dX7_stands_131 : decode cX7_stands 131 = .ok (.iload 11, 2) := by decide +kernel
theorem dX7_stands_133 : decode cX7_stands 133 = .ok (.iadd, 1) := by decide +kernel
theorem dX7_stands_134 : decode cX7_stands 134 = .ok (.i2l, 1) := by decide +kernel
theorem dX7_stands_135 : decode cX7_stands 135 = .ok (.lmul, 1) := by decide +kernel
theorem dX7_stands_136 : decode cX7_stands 136 = .ok (.ladd, 1) := by decide +kernel
theorem dX7_stands_137 : decode cX7_stands 137 = .ok (.lstore 5, 2) := by decide +kernel
theorem dX7_stands_139 : decode cX7_stands 139 = .ok (.aload_n 0, 1) := by decide +kernel
theorem dX7_stands_140 : decode cX7_stands 140 = .ok (.getfield 34, 3) := by decide +kernel
theorem dX7_stands_143 : decode cX7_stands 143 = .ok (.iload 9, 2) := by decide +kernel
theorem dX7_stands_145 : decode cX7_stands 145 = .ok (.iaload, 1) := by decide +kernel
theorem dX7_stands_146 : decode cX7_stands 146 = .ok (.ifCond .le 6, 3) := by decide +kernel
theorem dX7_stands_149 : decode cX7_stands 149 = .ok (.goto 84, 3) := by decide +kernel
theorem dX7_stands_152 : decode cX7_stands 152 = .ok (.iconst 0, 1) := by decide +kernel
theorem dX7_stands_153 : decode cX7_stands 153 = .ok (.istore 12, 2) := by decide +kernel
theorem dX7_stands_155 : decode cX7_stands 155 = .ok (.iload 12, 2) := by decide +kernel
theorem dX7_stands_157 : decode cX7_stands 157 = .ok (.iconst 2, 1) := by decide +kernel
theorem dX7_stands_158 : decode cX7_stands 158 = .ok (.if_icmp .ge 75, 3) := by decide +kernel
theorem dX7_stands_161 : decode cX7_stands 161 = .ok (.aload_n 0, 1) := by decide +kernel
theorem dX7_stands_162 : decode cX7_stands 162 = .ok (.getfield 31, 3) := by decide +kernel
theorem dX7_stands_165 : decode cX7_stands 165 = .ok (.iload 9, 2) := by decide +kernel
theorem dX7_stands_167 : decode cX7_stands 167 = .ok (.iaload, 1) := by decide +kernel
theorem dX7_stands_168 : decode cX7_stands 168 = .ok (.iload 12, 2) := by decide +kernel
theorem dX7_stands_170 : decode cX7_stands 170 = .ok (.iload 11, 2) := by decide +kernel
theorem dX7_stands_172 : decode cX7_stands 172 = .ok (.imul, 1) := by decide +kernel
theorem dX7_stands_173 : decode cX7_stands 173 = .ok (.iadd, 1) := by decide +kernel
theorem dX7_stands_174 : decode cX7_stands 174 = .ok (.istore 13, 2) := by decide +kernel
theorem dX7_stands_176 : decode cX7_stands 176 = .ok (.aload_n 0, 1) := by decide +kernel
theorem dX7_stands_177 : decode cX7_stands 177 = .ok (.getfield 48, 3) := by decide +kernel
theorem dX7_stands_180 : decode cX7_stands 180 = .ok (.iload 13, 2) := by decide +kernel
theorem dX7_stands_182 : decode cX7_stands 182 = .ok (.aload_n 0, 1) := by decide +kernel
theorem dX7_stands_183 : decode cX7_stands 183 = .ok (.getfield 48, 3) := by decide +kernel
theorem dX7_stands_186 : decode cX7_stands 186 = .ok (.iload 13, 2) := by decide +kernel
theorem dX7_stands_188 : decode cX7_stands 188 = .ok (.iaload, 1) := by decide +kernel
theorem dX7_stands_189 : decode cX7_stands 189 = .ok (.aload_n 0, 1) := by decide +kernel
theorem dX7_stands_190 : decode cX7_stands 190 = .ok (.getfield 28, 3) := by decide +kernel
theorem dX7_stands_193 : decode cX7_stands 193 = .ok (.iload 9, 2) := by decide +kernel
theorem dX7_stands_195 : decode cX7_stands 195 = .ok (.iaload, 1) := by decide +kernel
theorem dX7_stands_196 : decode cX7_stands 196 = .ok (.invokestatic 162, 3) := by decide +kernel
theorem dX7_stands_199 : decode cX7_stands 199 = .ok (.iastore, 1) := by decide +kernel
theorem dX7_stands_200 : decode cX7_stands 200 = .ok (.aload_n 0, 1) := by decide +kernel
theorem dX7_stands_201 : decode cX7_stands 201 = .ok (.getfield 51, 3) := by decide +kernel
theorem dX7_stands_204 : decode cX7_stands 204 = .ok (.iload 13, 2) := by decide +kernel
theorem dX7_stands_206 : decode cX7_stands 206 = .ok (.aload_n 0, 1) := by decide +kernel
theorem dX7_stands_207 : decode cX7_stands 207 = .ok (.getfield 51, 3) := by decide +kernel
theorem dX7_stands_210 : decode cX7_stands 210 = .ok (.iload 13, 2) := by decide +kernel
theorem dX7_stands_212 : decode cX7_stands 212 = .ok (.iaload, 1) := by decide +kernel
theorem dX7_stands_213 : decode cX7_stands 213 = .ok (.aload_n 0, 1) := by decide +kernel
theorem dX7_stands_214 : decode cX7_stands 214 = .ok (.getfield 28, 3) := by decide +kernel
theorem dX7_stands_217 : decode cX7_stands 217 = .ok (.iload 9, 2) := by decide +kernel
theorem dX7_stands_219 : decode cX7_stands 219 = .ok (.iaload, 1) := by decide +kernel
theorem dX7_stands_220 : decode cX7_stands 220 = .ok (.iload 10, 2) := by decide +kernel
theorem dX7_stands_222 : decode cX7_stands 222 = .ok (.iadd, 1) := by decide +kernel
theorem dX7_stands_223 : decode cX7_stands 223 = .ok (.invokestatic 165, 3) := by decide +kernel
theorem dX7_stands_226 : decode cX7_stands 226 = .ok (.iastore, 1) := by decide +kernel
theorem dX7_stands_227 : decode cX7_stands 227 = .ok (.iinc 12 1, 3) := by decide +kernel
theorem dX7_stands_230 : decode cX7_stands 230 = .ok (.goto (-75), 3) := by decide +kernel
theorem dX7_stands_233 : decode cX7_stands 233 = .ok (.lload 7, 2) := by decide +kernel
theorem dX7_stands_235 : decode cX7_stands 235 = .ok (.lload 7, 2) := by decide +kernel
theorem dX7_stands_237 : decode cX7_stands 237 = .ok (.lconst 1, 1) := by decide +kernel
theorem dX7_stands_238 : decode cX7_stands 238 = .ok (.lsub, 1) := by decide +kernel
theorem dX7_stands_239 : decode cX7_stands 239 = .ok (.land, 1) := by decide +kernel
theorem dX7_stands_240 : decode cX7_stands 240 = .ok (.lstore 7, 2) := by decide +kernel
theorem dX7_stands_242 : decode cX7_stands 242 = .ok (.goto (-205), 3) := by decide +kernel
theorem dX7_stands_245 : decode cX7_stands 245 = .ok (.iconst 0, 1) := by decide +kernel
theorem dX7_stands_246 : decode cX7_stands 246 = .ok (.istore 7, 2) := by decide +kernel
theorem dX7_stands_248 : decode cX7_stands 248 = .ok (.iconst 0, 1) := by decide +kernel
theorem dX7_stands_249 : decode cX7_stands 249 = .ok (.istore 8, 2) := by decide +kernel
theorem dX7_stands_251 : decode cX7_stands 251 = .ok (.iload 8, 2) := by decide +kernel
theorem dX7_stands_253 : decode cX7_stands 253 = .ok (.bipush 6, 2) := by decide +kernel
theorem dX7_stands_255 : decode cX7_stands 255 = .ok (.if_icmp .gt 75, 3) := by decide +kernel
theorem dX7_stands_258 : decode cX7_stands 258 = .ok (.aload_n 0, 1) := by decide +kernel
theorem dX7_stands_259 : decode cX7_stands 259 = .ok (.getfield 51, 3) := by decide +kernel
theorem dX7_stands_262 : decode cX7_stands 262 = .ok (.iload 8, 2) := by decide +kernel
theorem dX7_stands_264 : decode cX7_stands 264 = .ok (.iaload, 1) := by decide +kernel
theorem dX7_stands_265 : decode cX7_stands 265 = .ok (.ifCond .ge 6, 3) := by decide +kernel
theorem dX7_stands_268 : decode cX7_stands 268 = .ok (.goto 56, 3) := by decide +kernel
theorem dX7_stands_271 : decode cX7_stands 271 = .ok (.aload_n 0, 1) := by decide +kernel
theorem dX7_stands_272 : decode cX7_stands 272 = .ok (.getfield 54, 3) := by decide +kernel
theorem dX7_stands_275 : decode cX7_stands 275 = .ok (.iload 7, 2) := by decide +kernel
theorem dX7_stands_277 : decode cX7_stands 277 = .ok (.aload_n 0, 1) := by decide +kernel
theorem dX7_stands_278 : decode cX7_stands 278 = .ok (.getfield 48, 3) := by decide +kernel
theorem dX7_stands_281 : decode cX7_stands 281 = .ok (.iload 8, 2) := by decide +kernel
theorem dX7_stands_283 : decode cX7_stands 283 = .ok (.iaload, 1) := by decide +kernel
theorem dX7_stands_284 : decode cX7_stands 284 = .ok (.iastore, 1) := by decide +kernel
theorem dX7_stands_285 : decode cX7_stands 285 = .ok (.aload_n 0, 1) := by decide +kernel
theorem dX7_stands_286 : decode cX7_stands 286 = .ok (.getfield 57, 3) := by decide +kernel
theorem dX7_stands_289 : decode cX7_stands 289 = .ok (.iload 7, 2) := by decide +kernel
theorem dX7_stands_291 : decode cX7_stands 291 = .ok (.iload 8, 2) := by decide +kernel
theorem dX7_stands_293 : decode cX7_stands 293 = .ok (.iastore, 1) := by decide +kernel
theorem dX7_stands_294 : decode cX7_stands 294 = .ok (.aload_n 0, 1) := by decide +kernel
theorem dX7_stands_295 : decode cX7_stands 295 = .ok (.getfield 54, 3) := by decide +kernel
theorem dX7_stands_298 : decode cX7_stands 298 = .ok (.iload 7, 2) := by decide +kernel
theorem dX7_stands_300 : decode cX7_stands 300 = .ok (.iconst 1, 1) := by decide +kernel
theorem dX7_stands_301 : decode cX7_stands 301 = .ok (.iadd, 1) := by decide +kernel
theorem dX7_stands_302 : decode cX7_stands 302 = .ok (.aload_n 0, 1) := by decide +kernel
theorem dX7_stands_303 : decode cX7_stands 303 = .ok (.getfield 51, 3) := by decide +kernel
theorem dX7_stands_306 : decode cX7_stands 306 = .ok (.iload 8, 2) := by decide +kernel
theorem dX7_stands_308 : decode cX7_stands 308 = .ok (.iaload, 1) := by decide +kernel
theorem dX7_stands_309 : decode cX7_stands 309 = .ok (.iastore, 1) := by decide +kernel
theorem dX7_stands_310 : decode cX7_stands 310 = .ok (.aload_n 0, 1) := by decide +kernel
theorem dX7_stands_311 : decode cX7_stands 311 = .ok (.getfield 57, 3) := by decide +kernel
theorem dX7_stands_314 : decode cX7_stands 314 = .ok (.iload 7, 2) := by decide +kernel
theorem dX7_stands_316 : decode cX7_stands 316 = .ok (.iconst 1, 1) := by decide +kernel
theorem dX7_stands_317 : decode cX7_stands 317 = .ok (.iadd, 1) := by decide +kernel
theorem dX7_stands_318 : decode cX7_stands 318 = .ok (.iload 8, 2) := by decide +kernel
theorem dX7_stands_320 : decode cX7_stands 320 = .ok (.iastore, 1) := by decide +kernel
theorem dX7_stands_321 : decode cX7_stands 321 = .ok (.iinc 7 2, 3) := by decide +kernel
theorem dX7_stands_324 : decode cX7_stands 324 = .ok (.iinc 8 1, 3) := by decide +kernel
theorem dX7_stands_327 : decode cX7_stands 327 = .ok (.goto (-76), 3) := by decide +kernel
theorem dX7_stands_330 : decode cX7_stands 330 = .ok (.ldc2_w 178, 3) := by decide +kernel
theorem dX7_stands_333 : decode cX7_stands 333 = .ok (.aload_n 0, 1) := by decide +kernel
theorem dX7_stands_334 : decode cX7_stands 334 = .ok (.lload_n 1, 1) := by decide +kernel
theorem dX7_stands_335 : decode cX7_stands 335 = .ok (.invokevirtual 180, 3) := by decide +kernel
theorem dX7_stands_338 : decode cX7_stands 338 = .ok (.i2l, 1) := by decide +kernel
theorem dX7_stands_339 : decode cX7_stands 339 = .ok (.lmul, 1) := by decide +kernel
theorem dX7_stands_340 : decode cX7_stands 340 = .ok (.lstore 8, 2) := by decide +kernel
theorem dX7_stands_342 : decode cX7_stands 342 = .ok (.iconst 0, 1) := by decide +kernel
theorem dX7_stands_343 : decode cX7_stands 343 = .ok (.istore 10, 2) := by decide +kernel
theorem dX7_stands_345 : decode cX7_stands 345 = .ok (.iload 10, 2) := by decide +kernel
theorem dX7_stands_347 : decode cX7_stands 347 = .ok (.iload 7, 2) := by decide +kernel
theorem dX7_stands_349 : decode cX7_stands 349 = .ok (.if_icmp .ge 107, 3) := by decide +kernel
theorem dX7_stands_352 : decode cX7_stands 352 = .ok (.iconst 0, 1) := by decide +kernel
theorem dX7_stands_353 : decode cX7_stands 353 = .ok (.istore 11, 2) := by decide +kernel
theorem dX7_stands_355 : decode cX7_stands 355 = .ok (.iload 11, 2) := by decide +kernel
theorem dX7_stands_357 : decode cX7_stands 357 = .ok (.iload 7, 2) := by decide +kernel
theorem dX7_stands_359 : decode cX7_stands 359 = .ok (.if_icmp .ge 91, 3) := by decide +kernel
theorem dX7_stands_362 : decode cX7_stands 362 = .ok (.aload_n 0, 1) := by decide +kernel
theorem dX7_stands_363 : decode cX7_stands 363 = .ok (.iload 10, 2) := by decide +kernel
theorem dX7_stands_365 : decode cX7_stands 365 = .ok (.iload 11, 2) := by decide +kernel
theorem dX7_stands_367 : decode cX7_stands 367 = .ok (.iload 7, 2) := by decide +kernel
theorem dX7_stands_369 : decode cX7_stands 369 = .ok (.invokevirtual 183, 3) := by decide +kernel
theorem dX7_stands_372 : decode cX7_stands 372 = .ok (.ifCond .eq 72, 3) := by decide +kernel
theorem dX7_stands_375 : decode cX7_stands 375 = .ok (.aload_n 0, 1) := by decide +kernel
theorem dX7_stands_376 : decode cX7_stands 376 = .ok (.getfield 54, 3) := by decide +kernel
theorem dX7_stands_379 : decode cX7_stands 379 = .ok (.iload 11, 2) := by decide +kernel
theorem dX7_stands_381 : decode cX7_stands 381 = .ok (.iaload, 1) := by decide +kernel
theorem dX7_stands_382 : decode cX7_stands 382 = .ok (.aload_n 0, 1) := by decide +kernel
theorem dX7_stands_383 : decode cX7_stands 383 = .ok (.getfield 54, 3) := by decide +kernel
theorem dX7_stands_386 : decode cX7_stands 386 = .ok (.iload 10, 2) := by decide +kernel
theorem dX7_stands_388 : decode cX7_stands 388 = .ok (.iaload, 1) := by decide +kernel
theorem dX7_stands_389 : decode cX7_stands 389 = .ok (.isub, 1) := by decide +kernel
theorem dX7_stands_390 : decode cX7_stands 390 = .ok (.i2l, 1) := by decide +kernel
theorem dX7_stands_391 : decode cX7_stands 391 = .ok (.lload 5, 2) := by decide +kernel
theorem dX7_stands_393 : decode cX7_stands 393 = .ok (.lload 8, 2) := by decide +kernel
theorem dX7_stands_395 : decode cX7_stands 395 = .ok (.aload_n 0, 1) := by decide +kernel
theorem dX7_stands_396 : decode cX7_stands 396 = .ok (.getfield 57, 3) := by decide +kernel
theorem dX7_stands_399 : decode cX7_stands 399 = .ok (.iload 10, 2) := by decide +kernel
theorem dX7_stands_401 : decode cX7_stands 401 = .ok (.iaload, 1) := by decide +kernel
theorem dX7_stands_402 : decode cX7_stands 402 = .ok (.i2l, 1) := by decide +kernel
theorem dX7_stands_403 : decode cX7_stands 403 = .ok (.lmul, 1) := by decide +kernel
theorem dX7_stands_404 : decode cX7_stands 404 = .ok (.lsub, 1) := by decide +kernel
theorem dX7_stands_405 : decode cX7_stands 405 = .ok (.lmul, 1) := by decide +kernel
theorem dX7_stands_406 : decode cX7_stands 406 = .ok (.aload_n 0, 1) := by decide +kernel
theorem dX7_stands_407 : decode cX7_stands 407 = .ok (.getfield 57, 3) := by decide +kernel
theorem dX7_stands_410 : decode cX7_stands 410 = .ok (.iload 11, 2) := by decide +kernel
theorem dX7_stands_412 : decode cX7_stands 412 = .ok (.iaload, 1) := by decide +kernel
theorem dX7_stands_413 : decode cX7_stands 413 = .ok (.aload_n 0, 1) := by decide +kernel
theorem dX7_stands_414 : decode cX7_stands 414 = .ok (.getfield 57, 3) := by decide +kernel
theorem dX7_stands_417 : decode cX7_stands 417 = .ok (.iload 10, 2) := by decide +kernel
theorem dX7_stands_419 : decode cX7_stands 419 = .ok (.iaload, 1) := by decide +kernel
theorem dX7_stands_420 : decode cX7_stands 420 = .ok (.isub, 1) := by decide +kernel
theorem dX7_stands_421 : decode cX7_stands 421 = .ok (.i2l, 1) := by decide +kernel
theorem dX7_stands_422 : decode cX7_stands 422 = .ok (.lload_n 3, 1) := by decide +kernel
theorem dX7_stands_423 : decode cX7_stands 423 = .ok (.lload 8, 2) := by decide +kernel
theorem dX7_stands_425 : decode cX7_stands 425 = .ok (.aload_n 0, 1) := by decide +kernel
theorem dX7_stands_426 : decode cX7_stands 426 = .ok (.getfield 54, 3) := by decide +kernel
theorem dX7_stands_429 : decode cX7_stands 429 = .ok (.iload 10, 2) := by decide +kernel
theorem dX7_stands_431 : decode cX7_stands 431 = .ok (.iaload, 1) := by decide +kernel
theorem dX7_stands_432 : decode cX7_stands 432 = .ok (.i2l, 1) := by decide +kernel
theorem dX7_stands_433 : decode cX7_stands 433 = .ok (.lmul, 1) := by decide +kernel
theorem dX7_stands_434 : decode cX7_stands 434 = .ok (.lsub, 1) := by decide +kernel
theorem dX7_stands_435 : decode cX7_stands 435 = .ok (.lmul, 1) := by decide +kernel
theorem dX7_stands_436 : decode cX7_stands 436 = .ok (.lsub, 1) := by decide +kernel
theorem dX7_stands_437 : decode cX7_stands 437 = .ok (.lconst 0, 1) := by decide +kernel
theorem dX7_stands_438 : decode cX7_stands 438 = .ok (.lcmp, 1) := by decide +kernel
theorem dX7_stands_439 : decode cX7_stands 439 = .ok (.ifCond .ge 5, 3) := by decide +kernel
theorem dX7_stands_442 : decode cX7_stands 442 = .ok (.iconst 0, 1) := by decide +kernel
theorem dX7_stands_443 : decode cX7_stands 443 = .ok (.ireturn, 1) := by decide +kernel
theorem dX7_stands_444 : decode cX7_stands 444 = .ok (.iinc 11 1, 3) := by decide +kernel
theorem dX7_stands_447 : decode cX7_stands 447 = .ok (.goto (-92), 3) := by decide +kernel
theorem dX7_stands_450 : decode cX7_stands 450 = .ok (.iinc 10 1, 3) := by decide +kernel
theorem dX7_stands_453 : decode cX7_stands 453 = .ok (.goto (-108), 3) := by decide +kernel
theorem dX7_stands_456 : decode cX7_stands 456 = .ok (.iload 7, 2) := by decide +kernel
theorem dX7_stands_458 : decode cX7_stands 458 = .ok (.ifCond .le 7, 3) := by decide +kernel
theorem dX7_stands_461 : decode cX7_stands 461 = .ok (.iconst 1, 1) := by decide +kernel
theorem dX7_stands_462 : decode cX7_stands 462 = .ok (.goto 4, 3) := by decide +kernel
theorem dX7_stands_465 : decode cX7_stands 465 = .ok (.iconst 0, 1) := by decide +kernel
theorem dX7_stands_466 : decode cX7_stands 466 = .ok (.ireturn, 1) := by decide +kernel
theorem dX7_isBorder_0 : decode cX7_isBorder 0 = .ok (.iload_n 1, 1) := by decide +kernel
theorem dX7_isBorder_1 : decode cX7_isBorder 1 = .ok (.iload_n 2, 1) := by decide +kernel
theorem dX7_isBorder_2 : decode cX7_isBorder 2 = .ok (.if_icmp .eq 7, 3) := by decide +kernel
theorem dX7_isBorder_5 : decode cX7_isBorder 5 = .ok (.iconst 1, 1) := by decide +kernel
theorem dX7_isBorder_6 : decode cX7_isBorder 6 = .ok (.goto 4, 3) := by decide +kernel
theorem dX7_isBorder_9 : decode cX7_isBorder 9 = .ok (.iconst 0, 1) := by decide +kernel
theorem dX7_isBorder_10 : decode cX7_isBorder 10 = .ok (.istore 4, 2) := by decide +kernel
theorem dX7_isBorder_12 : decode cX7_isBorder 12 = .ok (.iconst 0, 1) := by decide +kernel
theorem dX7_isBorder_13 : decode cX7_isBorder 13 = .ok (.istore 5, 2) := by decide +kernel
theorem dX7_isBorder_15 : decode cX7_isBorder 15 = .ok (.iload 5, 2) := by decide +kernel
theorem dX7_isBorder_17 : decode cX7_isBorder 17 = .ok (.iload_n 3, 1) := by decide +kernel
theorem dX7_isBorder_18 : decode cX7_isBorder 18 = .ok (.if_icmp .ge 81, 3) := by decide +kernel
theorem dX7_isBorder_21 : decode cX7_isBorder 21 = .ok (.iload 4, 2) := by decide +kernel
theorem dX7_isBorder_23 : decode cX7_isBorder 23 = .ok (.ifCond .eq 76, 3) := by decide +kernel
theorem dX7_isBorder_26 : decode cX7_isBorder 26 = .ok (.aload_n 0, 1) := by decide +kernel
theorem dX7_isBorder_27 : decode cX7_isBorder 27 = .ok (.getfield 54, 3) := by decide +kernel
theorem dX7_isBorder_30 : decode cX7_isBorder 30 = .ok (.iload_n 2, 1) := by decide +kernel
theorem dX7_isBorder_31 : decode cX7_isBorder 31 = .ok (.iaload, 1) := by decide +kernel
theorem dX7_isBorder_32 : decode cX7_isBorder 32 = .ok (.aload_n 0, 1) := by decide +kernel
theorem dX7_isBorder_33 : decode cX7_isBorder 33 = .ok (.getfield 54, 3) := by decide +kernel
theorem dX7_isBorder_36 : decode cX7_isBorder 36 = .ok (.iload_n 1, 1) := by decide +kernel
theorem dX7_isBorder_37 : decode cX7_isBorder 37 = .ok (.iaload, 1) := by decide +kernel
theorem dX7_isBorder_38 : decode cX7_isBorder 38 = .ok (.isub, 1) := by decide +kernel
theorem dX7_isBorder_39 : decode cX7_isBorder 39 = .ok (.aload_n 0, 1) := by decide +kernel
theorem dX7_isBorder_40 : decode cX7_isBorder 40 = .ok (.getfield 57, 3) := by decide +kernel
theorem dX7_isBorder_43 : decode cX7_isBorder 43 = .ok (.iload 5, 2) := by decide +kernel
theorem dX7_isBorder_45 : decode cX7_isBorder 45 = .ok (.iaload, 1) := by decide +kernel
theorem dX7_isBorder_46 : decode cX7_isBorder 46 = .ok (.aload_n 0, 1) := by decide +kernel
theorem dX7_isBorder_47 : decode cX7_isBorder 47 = .ok (.getfield 57, 3) := by decide +kernel
theorem dX7_isBorder_50 : decode cX7_isBorder 50 = .ok (.iload_n 1, 1) := by decide +kernel
theorem dX7_isBorder_51 : decode cX7_isBorder 51 = .ok (.iaload, 1) := by decide +kernel
theorem dX7_isBorder_52 : decode cX7_isBorder 52 = .ok (.isub, 1) := by decide +kernel
theorem dX7_isBorder_53 : decode cX7_isBorder 53 = .ok (.imul, 1) := by decide +kernel
theorem dX7_isBorder_54 : decode cX7_isBorder 54 = .ok (.aload_n 0, 1) := by decide +kernel
theorem dX7_isBorder_55 : decode cX7_isBorder 55 = .ok (.getfield 57, 3) := by decide +kernel
theorem dX7_isBorder_58 : decode cX7_isBorder 58 = .ok (.iload_n 2, 1) := by decide +kernel
theorem dX7_isBorder_59 : decode cX7_isBorder 59 = .ok (.iaload, 1) := by decide +kernel
theorem dX7_isBorder_60 : decode cX7_isBorder 60 = .ok (.aload_n 0, 1) := by decide +kernel
theorem dX7_isBorder_61 : decode cX7_isBorder 61 = .ok (.getfield 57, 3) := by decide +kernel
theorem dX7_isBorder_64 : decode cX7_isBorder 64 = .ok (.iload_n 1, 1) := by decide +kernel
theorem dX7_isBorder_65 : decode cX7_isBorder 65 = .ok (.iaload, 1) := by decide +kernel
theorem dX7_isBorder_66 : decode cX7_isBorder 66 = .ok (.isub, 1) := by decide +kernel
theorem dX7_isBorder_67 : decode cX7_isBorder 67 = .ok (.aload_n 0, 1) := by decide +kernel
theorem dX7_isBorder_68 : decode cX7_isBorder 68 = .ok (.getfield 54, 3) := by decide +kernel
theorem dX7_isBorder_71 : decode cX7_isBorder 71 = .ok (.iload 5, 2) := by decide +kernel
theorem dX7_isBorder_73 : decode cX7_isBorder 73 = .ok (.iaload, 1) := by decide +kernel
theorem dX7_isBorder_74 : decode cX7_isBorder 74 = .ok (.aload_n 0, 1) := by decide +kernel
theorem dX7_isBorder_75 : decode cX7_isBorder 75 = .ok (.getfield 54, 3) := by decide +kernel
theorem dX7_isBorder_78 : decode cX7_isBorder 78 = .ok (.iload_n 1, 1) := by decide +kernel
theorem dX7_isBorder_79 : decode cX7_isBorder 79 = .ok (.iaload, 1) := by decide +kernel
theorem dX7_isBorder_80 : decode cX7_isBorder 80 = .ok (.isub, 1) := by decide +kernel
theorem dX7_isBorder_81 : decode cX7_isBorder 81 = .ok (.imul, 1) := by decide +kernel
theorem dX7_isBorder_82 : decode cX7_isBorder 82 = .ok (.isub, 1) := by decide +kernel
theorem dX7_isBorder_83 : decode cX7_isBorder 83 = .ok (.ifCond .lt 7, 3) := by decide +kernel
theorem dX7_isBorder_86 : decode cX7_isBorder 86 = .ok (.iconst 1, 1) := by decide +kernel
theorem dX7_isBorder_87 : decode cX7_isBorder 87 = .ok (.goto 4, 3) := by decide +kernel
theorem dX7_isBorder_90 : decode cX7_isBorder 90 = .ok (.iconst 0, 1) := by decide +kernel
theorem dX7_isBorder_91 : decode cX7_isBorder 91 = .ok (.istore 4, 2) := by decide +kernel
theorem dX7_isBorder_93 : decode cX7_isBorder 93 = .ok (.iinc 5 1, 3) := by decide +kernel
theorem dX7_isBorder_96 : decode cX7_isBorder 96 = .ok (.goto (-81), 3) := by decide +kernel
theorem dX7_isBorder_99 : decode cX7_isBorder 99 = .ok (.iload 4, 2) := by decide +kernel
theorem dX7_isBorder_101 : decode cX7_isBorder 101 = .ok (.ireturn, 1) := by decide +kernel
theorem dX7_weakAt_0 : decode cX7_weakAt 0 = .ok (.lload_n 1, 1) := by decide +kernel
theorem dX7_weakAt_1 : decode cX7_weakAt 1 = .ok (.lconst 1, 1) := by decide +kernel
theorem dX7_weakAt_2 : decode cX7_weakAt 2 = .ok (.iload_n 3, 1) := by decide +kernel
theorem dX7_weakAt_3 : decode cX7_weakAt 3 = .ok (.lshl, 1) := by decide +kernel
theorem dX7_weakAt_4 : decode cX7_weakAt 4 = .ok (.ldc2_w 155, 3) := by decide +kernel
theorem dX7_weakAt_7 : decode cX7_weakAt 7 = .ok (.lxor, 1) := by decide +kernel
theorem dX7_weakAt_8 : decode cX7_weakAt 8 = .ok (.land, 1) := by decide +kernel
theorem dX7_weakAt_9 : decode cX7_weakAt 9 = .ok (.lstore 4, 2) := by decide +kernel
theorem dX7_weakAt_11 : decode cX7_weakAt 11 = .ok (.lload 4, 2) := by decide +kernel
theorem dX7_weakAt_13 : decode cX7_weakAt 13 = .ok (.lconst 0, 1) := by decide +kernel
theorem dX7_weakAt_14 : decode cX7_weakAt 14 = .ok (.lcmp, 1) := by decide +kernel
theorem dX7_weakAt_15 : decode cX7_weakAt 15 = .ok (.ifCond .eq 15, 3) := by decide +kernel
theorem dX7_weakAt_18 : decode cX7_weakAt 18 = .ok (.aload_n 0, 1) := by decide +kernel
theorem dX7_weakAt_19 : decode cX7_weakAt 19 = .ok (.lload 4, 2) := by decide +kernel
theorem dX7_weakAt_21 : decode cX7_weakAt 21 = .ok (.invokevirtual 186, 3) := by decide +kernel
theorem dX7_weakAt_24 : decode cX7_weakAt 24 = .ok (.lload 4, 2) := by decide +kernel
theorem dX7_weakAt_26 : decode cX7_weakAt 26 = .ok (.lcmp, 1) := by decide +kernel
theorem dX7_weakAt_27 : decode cX7_weakAt 27 = .ok (.ifCond .ne 5, 3) := by decide +kernel
theorem dX7_weakAt_30 : decode cX7_weakAt 30 = .ok (.iconst (-1), 1) := by decide +kernel
theorem dX7_weakAt_31 : decode cX7_weakAt 31 = .ok (.ireturn, 1) := by decide +kernel
theorem dX7_weakAt_32 : decode cX7_weakAt 32 = .ok (.iconst 0, 1) := by decide +kernel
theorem dX7_weakAt_33 : decode cX7_weakAt 33 = .ok (.istore 6, 2) := by decide +kernel
theorem dX7_weakAt_35 : decode cX7_weakAt 35 = .ok (.aload_n 0, 1) := by decide +kernel
theorem dX7_weakAt_36 : decode cX7_weakAt 36 = .ok (.lload_n 1, 1) := by decide +kernel
theorem dX7_weakAt_37 : decode cX7_weakAt 37 = .ok (.invokevirtual 190, 3) := by decide +kernel
theorem dX7_weakAt_40 : decode cX7_weakAt 40 = .ok (.istore 7, 2) := by decide +kernel
theorem dX7_weakAt_42 : decode cX7_weakAt 42 = .ok (.lload 4, 2) := by decide +kernel
theorem dX7_weakAt_44 : decode cX7_weakAt 44 = .ok (.lconst 0, 1) := by decide +kernel
theorem dX7_weakAt_45 : decode cX7_weakAt 45 = .ok (.lcmp, 1) := by decide +kernel
theorem dX7_weakAt_46 : decode cX7_weakAt 46 = .ok (.ifCond .eq 109, 3) := by decide +kernel
theorem dX7_weakAt_49 : decode cX7_weakAt 49 = .ok (.iload 7, 2) := by decide +kernel
theorem dX7_weakAt_51 : decode cX7_weakAt 51 = .ok (.ifCond .ne 104, 3) := by decide +kernel
theorem dX7_weakAt_54 : decode cX7_weakAt 54 = .ok (.aload_n 0, 1) := by decide +kernel
theorem dX7_weakAt_55 : decode cX7_weakAt 55 = .ok (.lload 4, 2) := by decide +kernel
theorem dX7_weakAt_57 : decode cX7_weakAt 57 = .ok (.invokevirtual 186, 3) := by decide +kernel
theorem dX7_weakAt_60 : decode cX7_weakAt 60 = .ok (.lstore 8, 2) := by decide +kernel
theorem dX7_weakAt_62 : decode cX7_weakAt 62 = .ok (.lload 4, 2) := by decide +kernel
theorem dX7_weakAt_64 : decode cX7_weakAt 64 = .ok (.lload 8, 2) := by decide +kernel
theorem dX7_weakAt_66 : decode cX7_weakAt 66 = .ok (.ldc2_w 155, 3) := by decide +kernel
theorem dX7_weakAt_69 : decode cX7_weakAt 69 = .ok (.lxor, 1) := by decide +kernel
theorem dX7_weakAt_70 : decode cX7_weakAt 70 = .ok (.land, 1) := by decide +kernel
theorem dX7_weakAt_71 : decode cX7_weakAt 71 = .ok (.lstore 4, 2) := by decide +kernel
theorem dX7_weakAt_73 : decode cX7_weakAt 73 = .ok (.aload_n 0, 1) := by decide +kernel
theorem dX7_weakAt_74 : decode cX7_weakAt 74 = .ok (.lload 8, 2) := by decide +kernel
theorem dX7_weakAt_76 : decode cX7_weakAt 76 = .ok (.invokevirtual 190, 3) := by decide +kernel
theorem dX7_weakAt_79 : decode cX7_weakAt 79 = .ok (.ifCond .ne 6, 3) := by decide +kernel
theorem dX7_weakAt_82 : decode cX7_weakAt 82 = .ok (.goto (-40), 3) := by decide +kernel
theorem dX7_weakAt_85 : decode cX7_weakAt 85 = .ok (.iconst 0, 1) := by decide +kernel
theorem dX7_weakAt_86 : decode cX7_weakAt 86 = .ok (.istore 10, 2) := by decide +kernel
theorem dX7_weakAt_88 : decode cX7_weakAt 88 = .ok (.lload 8, 2) := by decide +kernel
theorem dX7_weakAt_90 : decode cX7_weakAt 90 = .ok (.lstore 11, 2) := by decide +kernel
theorem dX7_weakAt_92 : decode cX7_weakAt 92 = .ok (.lload 11, 2) := by decide +kernel
theorem dX7_weakAt_94 : decode cX7_weakAt 94 = .ok (.lconst 0, 1) := by decide +kernel
theorem dX7_weakAt_95 : decode cX7_weakAt 95 = .ok (.lcmp, 1) := by decide +kernel
theorem dX7_weakAt_96 : decode cX7_weakAt 96 = .ok (.ifCond .eq 30, 3) := by decide +kernel
theorem dX7_weakAt_99 : decode cX7_weakAt 99 = .ok (.iload 10, 2) := by decide +kernel
theorem dX7_weakAt_101 : decode cX7_weakAt 101 = .ok (.aload_n 0, 1) := by decide +kernel
theorem dX7_weakAt_102 : decode cX7_weakAt 102 = .ok (.iload_n 3, 1) := by decide +kernel
theorem dX7_weakAt_103 : decode cX7_weakAt 103 = .ok (.lload 11, 2) := by decide +kernel
theorem dX7_weakAt_105 : decode cX7_weakAt 105 = .ok (.invokestatic 171, 3) := by decide +kernel
theorem dX7_weakAt_108 : decode cX7_weakAt 108 = .ok (.invokevirtual 168, 3) := by decide +kernel
theorem dX7_weakAt_111 : decode cX7_weakAt 111 = .ok (.iadd, 1) := by decide +kernel
theorem dX7_weakAt_112 : decode cX7_weakAt 112 = .ok (.istore 10, 2) := by decide +kernel
theorem dX7_weakAt_114 : decode cX7_weakAt 114 = .ok (.lload 11, 2) := by decide +kernel
theorem dX7_weakAt_116 : decode cX7_weakAt 116 = .ok (.lload 11, 2) := by decide +kernel
theorem dX7_weakAt_118 : decode cX7_weakAt 118 = .ok (.lconst 1, 1) := by decide +kernel
theorem dX7_weakAt_119 : decode cX7_weakAt 119 = .ok (.lsub, 1) := by decide +kernel
theorem dX7_weakAt_120 : decode cX7_weakAt 120 = .ok (.land, 1) := by decide +kernel
theorem dX7_weakAt_121 : decode cX7_weakAt 121 = .ok (.lstore 11, 2) := by decide +kernel
theorem dX7_weakAt_123 : decode cX7_weakAt 123 = .ok (.goto (-31), 3) := by decide +kernel
theorem dX7_weakAt_126 : decode cX7_weakAt 126 = .ok (.iload 6, 2) := by decide +kernel
theorem dX7_weakAt_128 : decode cX7_weakAt 128 = .ok (.aload_n 0, 1) := by decide +kernel
theorem dX7_weakAt_129 : decode cX7_weakAt 129 = .ok (.lload 8, 2) := by decide +kernel
theorem dX7_weakAt_131 : decode cX7_weakAt 131 = .ok (.invokevirtual 180, 3) := by decide +kernel
theorem dX7_weakAt_134 : decode cX7_weakAt 134 = .ok (.aload_n 0, 1) := by decide +kernel
theorem dX7_weakAt_135 : decode cX7_weakAt 135 = .ok (.getfield 40, 3) := by decide +kernel
theorem dX7_weakAt_138 : decode cX7_weakAt 138 = .ok (.iload 10, 2) := by decide +kernel
theorem dX7_weakAt_140 : decode cX7_weakAt 140 = .ok (.imul, 1) := by decide +kernel
theorem dX7_weakAt_141 : decode cX7_weakAt 141 = .ok (.if_icmp .le 7, 3) := by decide +kernel
theorem dX7_weakAt_144 : decode cX7_weakAt 144 = .ok (.iconst 1, 1) := by decide +kernel
theorem dX7_weakAt_145 : decode cX7_weakAt 145 = .ok (.goto 4, 3) := by decide +kernel
theorem dX7_weakAt_148 : decode cX7_weakAt 148 = .ok (.iconst 0, 1) := by decide +kernel
theorem dX7_weakAt_149 : decode cX7_weakAt 149 = .ok (.iadd, 1) := by decide +kernel
theorem dX7_weakAt_150 : decode cX7_weakAt 150 = .ok (.istore 6, 2) := by decide +kernel
theorem dX7_weakAt_152 : decode cX7_weakAt 152 = .ok (.goto (-110), 3) := by decide +kernel
theorem dX7_weakAt_155 : decode cX7_weakAt 155 = .ok (.iload 6, 2) := by decide +kernel
theorem dX7_weakAt_157 : decode cX7_weakAt 157 = .ok (.ireturn, 1) := by decide +kernel
theorem dX7_isSound_0 : decode cX7_isSound 0 = .ok (.lload_n 1, 1) := by decide +kernel
theorem dX7_isSound_1 : decode cX7_isSound 1 = .ok (.lstore_n 3, 1) := by decide +kernel
theorem dX7_isSound_2 : decode cX7_isSound 2 = .ok (.lload_n 3, 1) := by decide +kernel
theorem dX7_isSound_3 : decode cX7_isSound 3 = .ok (.lconst 0, 1) := by decide +kernel
theorem dX7_isSound_4 : decode cX7_isSound 4 = .ok (.lcmp, 1) := by decide +kernel
theorem dX7_isSound_5 : decode cX7_isSound 5 = .ok (.ifCond .eq 81, 3) := by decide +kernel
theorem dX7_isSound_8 : decode cX7_isSound 8 = .ok (.aload_n 0, 1) := by decide +kernel
theorem dX7_isSound_9 : decode cX7_isSound 9 = .ok (.lload_n 3, 1) := by decide +kernel
theorem dX7_isSound_10 : decode cX7_isSound 10 = .ok (.invokevirtual 186, 3) := by decide +kernel
theorem dX7_isSound_13 : decode cX7_isSound 13 = .ok (.lstore 5, 2) := by decide +kernel
theorem dX7_isSound_15 : decode cX7_isSound 15 = .ok (.lload_n 3, 1) := by decide +kernel
theorem dX7_isSound_16 : decode cX7_isSound 16 = .ok (.lload 5, 2) := by decide +kernel
theorem dX7_isSound_18 : decode cX7_isSound 18 = .ok (.ldc2_w 155, 3) := by decide +kernel
theorem dX7_isSound_21 : decode cX7_isSound 21 = .ok (.lxor, 1) := by decide +kernel
theorem dX7_isSound_22 : decode cX7_isSound 22 = .ok (.land, 1) := by decide +kernel
theorem dX7_isSound_23 : decode cX7_isSound 23 = .ok (.lstore_n 3, 1) := by decide +kernel
theorem dX7_isSound_24 : decode cX7_isSound 24 = .ok (.aload_n 0, 1) := by decide +kernel
theorem dX7_isSound_25 : decode cX7_isSound 25 = .ok (.lload 5, 2) := by decide +kernel
theorem dX7_isSound_27 : decode cX7_isSound 27 = .ok (.invokevirtual 190, 3) := by decide +kernel
theorem dX7_isSound_30 : decode cX7_isSound 30 = .ok (.ifCond .ne 12, 3) := by decide +kernel
theorem dX7_isSound_33 : decode cX7_isSound 33 = .ok (.aload_n 0, 1) := by decide +kernel
theorem dX7_isSound_34 : decode cX7_isSound 34 = .ok (.lload 5, 2) := by decide +kernel
theorem dX7_isSound_36 : decode cX7_isSound 36 = .ok (.invokevirtual 194, 3) := by decide +kernel
theorem dX7_isSound_39 : decode cX7_isSound 39 = .ok (.ifCond .ne 5, 3) := by decide +kernel
theorem dX7_isSound_42 : decode cX7_isSound 42 = .ok (.iconst 0, 1) := by decide +kernel
theorem dX7_isSound_43 : decode cX7_isSound 43 = .ok (.ireturn, 1) := by decide +kernel
theorem dX7_isSound_44 : decode cX7_isSound 44 = .ok (.lload 5, 2) := by decide +kernel
theorem dX7_isSound_46 : decode cX7_isSound 46 = .ok (.lstore 7, 2) := by decide +kernel
theorem dX7_isSound_48 : decode cX7_isSound 48 = .ok (.lload 7, 2) := by decide +kernel
theorem dX7_isSound_50 : decode cX7_isSound 50 = .ok (.lconst 0, 1) := by decide +kernel
theorem dX7_isSound_51 : decode cX7_isSound 51 = .ok (.lcmp, 1) := by decide +kernel
theorem dX7_isSound_52 : decode cX7_isSound 52 = .ok (.ifCond .eq 31, 3) := by decide +kernel
theorem dX7_isSound_55 : decode cX7_isSound 55 = .ok (.aload_n 0, 1) := by decide +kernel
theorem dX7_isSound_56 : decode cX7_isSound 56 = .ok (.lload 5, 2) := by decide +kernel
theorem dX7_isSound_58 : decode cX7_isSound 58 = .ok (.lload 7, 2) := by decide +kernel
theorem dX7_isSound_60 : decode cX7_isSound 60 = .ok (.invokestatic 171, 3) := by decide +kernel
theorem dX7_isSound_63 : decode cX7_isSound 63 = .ok (.invokevirtual 197, 3) := by decide +kernel
theorem dX7_isSound_66 : decode cX7_isSound 66 = .ok (.ifCond .le 5, 3) := by decide +kernel
theorem dX7_isSound_69 : decode cX7_isSound 69 = .ok (.iconst 0, 1) := by decide +kernel
theorem dX7_isSound_70 : decode cX7_isSound 70 = .ok (.ireturn, 1) := by decide +kernel
theorem dX7_isSound_71 : decode cX7_isSound 71 = .ok (.lload 7, 2) := by decide +kernel
theorem dX7_isSound_73 : decode cX7_isSound 73 = .ok (.lload 7, 2) := by decide +kernel
theorem dX7_isSound_75 : decode cX7_isSound 75 = .ok (.lconst 1, 1) := by decide +kernel
theorem dX7_isSound_76 : decode cX7_isSound 76 = .ok (.lsub, 1) := by decide +kernel
theorem dX7_isSound_77 : decode cX7_isSound 77 = .ok (.land, 1) := by decide +kernel
theorem dX7_isSound_78 : decode cX7_isSound 78 = .ok (.lstore 7, 2) := by decide +kernel
theorem dX7_isSound_80 : decode cX7_isSound 80 = .ok (.goto (-32), 3) := by decide +kernel
theorem dX7_isSound_83 : decode cX7_isSound 83 = .ok (.goto (-81), 3) := by decide +kernel
theorem dX7_isSound_86 : decode cX7_isSound 86 = .ok (.iconst 1, 1) := by decide +kernel
theorem dX7_isSound_87 : decode cX7_isSound 87 = .ok (.ireturn, 1) := by decide +kernel
theorem dX7_findPieces_0 : decode cX7_findPieces 0 = .ok (.aload_n 0, 1) := by decide +kernel
theorem dX7_findPieces_1 : decode cX7_findPieces 1 = .ok (.invokevirtual 201, 3) := by decide +kernel
theorem dX7_findPieces_4 : decode cX7_findPieces 4 = .ok (.aload_n 0, 1) := by decide +kernel
theorem dX7_findPieces_5 : decode cX7_findPieces 5 = .ok (.iconst 0, 1) := by decide +kernel
theorem dX7_findPieces_6 : decode cX7_findPieces 6 = .ok (.putfield 204, 3) := by decide +kernel
theorem dX7_findPieces_9 : decode cX7_findPieces 9 = .ok (.aload_n 0, 1) := by decide +kernel
theorem dX7_findPieces_10 : decode cX7_findPieces 10 = .ok (.getfield 140, 3) := by decide +kernel
theorem dX7_findPieces_13 : decode cX7_findPieces 13 = .ok (.lstore_n 1, 1) := by decide +kernel
theorem dX7_findPieces_14 : decode cX7_findPieces 14 = .ok (.lload_n 1, 1) := by decide +kernel
theorem dX7_findPieces_15 : decode cX7_findPieces 15 = .ok (.lconst 0, 1) := by decide +kernel
theorem dX7_findPieces_16 : decode cX7_findPieces 16 = .ok (.lcmp, 1) := by decide +kernel
theorem dX7_findPieces_17 : decode cX7_findPieces 17 = .ok (.ifCond .eq 46, 3) := by decide +kernel
theorem dX7_findPieces_20 : decode cX7_findPieces 20 = .ok (.aload_n 0, 1) := by decide +kernel
theorem dX7_findPieces_21 : decode cX7_findPieces 21 = .ok (.getfield 60, 3) := by decide +kernel
theorem dX7_findPieces_24 : decode cX7_findPieces 24 = .ok (.aload_n 0, 1) := by decide +kernel
theorem dX7_findPieces_25 : decode cX7_findPieces 25 = .ok (.getfield 204, 3) := by decide +kernel
theorem dX7_findPieces_28 : decode cX7_findPieces 28 = .ok (.aload_n 0, 1) := by decide +kernel
theorem dX7_findPieces_29 : decode cX7_findPieces 29 = .ok (.lload_n 1, 1) := by decide +kernel
theorem dX7_findPieces_30 : decode cX7_findPieces 30 = .ok (.invokevirtual 186, 3) := by decide +kernel
theorem dX7_findPieces_33 : decode cX7_findPieces 33 = .ok (.lastore, 1) := by decide +kernel
theorem dX7_findPieces_34 : decode cX7_findPieces 34 = .ok (.lload_n 1, 1) := by decide +kernel
theorem dX7_findPieces_35 : decode cX7_findPieces 35 = .ok (.aload_n 0, 1) := by decide +kernel
theorem dX7_findPieces_36 : decode cX7_findPieces 36 = .ok (.getfield 60, 3) := by decide +kernel
theorem dX7_findPieces_39 : decode cX7_findPieces 39 = .ok (.aload_n 0, 1) := by decide +kernel
theorem dX7_findPieces_40 : decode cX7_findPieces 40 = .ok (.getfield 204, 3) := by decide +kernel
theorem dX7_findPieces_43 : decode cX7_findPieces 43 = .ok (.laload, 1) := by decide +kernel
theorem dX7_findPieces_44 : decode cX7_findPieces 44 = .ok (.ldc2_w 155, 3) := by decide +kernel
theorem dX7_findPieces_47 : decode cX7_findPieces 47 = .ok (.lxor, 1) := by decide +kernel
theorem dX7_findPieces_48 : decode cX7_findPieces 48 = .ok (.land, 1) := by decide +kernel
theorem dX7_findPieces_49 : decode cX7_findPieces 49 = .ok (.lstore_n 1, 1) := by decide +kernel
theorem dX7_findPieces_50 : decode cX7_findPieces 50 = .ok (.aload_n 0, 1) := by decide +kernel
theorem dX7_findPieces_51 : decode cX7_findPieces 51 = .ok (.dup, 1) := by decide +kernel
theorem dX7_findPieces_52 : decode cX7_findPieces 52 = .ok (.getfield 204, 3) := by decide +kernel
theorem dX7_findPieces_55 : decode cX7_findPieces 55 = .ok (.iconst 1, 1) := by decide +kernel
theorem dX7_findPieces_56 : decode cX7_findPieces 56 = .ok (.iadd, 1) := by decide +kernel
theorem dX7_findPieces_57 : decode cX7_findPieces 57 = .ok (.putfield 204, 3) := by decide +kernel
theorem dX7_findPieces_60 : decode cX7_findPieces 60 = .ok (.goto (-46), 3) := by decide +kernel
theorem dX7_findPieces_63 : decode cX7_findPieces 63 = .ok (.return_, 1) := by decide +kernel
theorem dX7_pieces_0 : decode cX7_pieces 0 = .ok (.aload_n 0, 1) := by decide +kernel
theorem dX7_pieces_1 : decode cX7_pieces 1 = .ok (.invokevirtual 207, 3) := by decide +kernel
theorem dX7_pieces_4 : decode cX7_pieces 4 = .ok (.aload_n 0, 1) := by decide +kernel
theorem dX7_pieces_5 : decode cX7_pieces 5 = .ok (.getfield 204, 3) := by decide +kernel
theorem dX7_pieces_8 : decode cX7_pieces 8 = .ok (.ireturn, 1) := by decide +kernel
theorem dX7_pieceOfBrick_0 : decode cX7_pieceOfBrick 0 = .ok (.iconst 0, 1) := by decide +kernel
theorem dX7_pieceOfBrick_1 : decode cX7_pieceOfBrick 1 = .ok (.istore_n 2, 1) := by decide +kernel
theorem dX7_pieceOfBrick_2 : decode cX7_pieceOfBrick 2 = .ok (.aload_n 0, 1) := by decide +kernel
theorem dX7_pieceOfBrick_3 : decode cX7_pieceOfBrick 3 = .ok (.getfield 60, 3) := by decide +kernel
theorem dX7_pieceOfBrick_6 : decode cX7_pieceOfBrick 6 = .ok (.iload_n 2, 1) := by decide +kernel
theorem dX7_pieceOfBrick_7 : decode cX7_pieceOfBrick 7 = .ok (.laload, 1) := by decide +kernel
theorem dX7_pieceOfBrick_8 : decode cX7_pieceOfBrick 8 = .ok (.iload_n 1, 1) := by decide +kernel
theorem dX7_pieceOfBrick_9 : decode cX7_pieceOfBrick 9 = .ok (.lshr, 1) := by decide +kernel
theorem dX7_pieceOfBrick_10 : decode cX7_pieceOfBrick 10 = .ok (.lconst 1, 1) := by decide +kernel
theorem dX7_pieceOfBrick_11 : decode cX7_pieceOfBrick 11 = .ok (.land, 1) := by decide +kernel
theorem dX7_pieceOfBrick_12 : decode cX7_pieceOfBrick 12 = .ok (.lconst 0, 1) := by decide +kernel
theorem dX7_pieceOfBrick_13 : decode cX7_pieceOfBrick 13 = .ok (.lcmp, 1) := by decide +kernel
theorem dX7_pieceOfBrick_14 : decode cX7_pieceOfBrick 14 = .ok (.ifCond .ne 9, 3) := by decide +kernel
theorem dX7_pieceOfBrick_17 : decode cX7_pieceOfBrick 17 = .ok (.iinc 2 1, 3) := by decide +kernel
theorem dX7_pieceOfBrick_20 : decode cX7_pieceOfBrick 20 = .ok (.goto (-18), 3) := by decide +kernel
theorem dX7_pieceOfBrick_23 : decode cX7_pieceOfBrick 23 = .ok (.iload_n 2, 1) := by decide +kernel
theorem dX7_pieceOfBrick_24 : decode cX7_pieceOfBrick 24 = .ok (.ireturn, 1) := by decide +kernel
theorem dX7_piece_0 : decode cX7_piece 0 = .ok (.aload_n 0, 1) := by decide +kernel
theorem dX7_piece_1 : decode cX7_piece 1 = .ok (.iload_n 1, 1) := by decide +kernel
theorem dX7_piece_2 : decode cX7_piece 2 = .ok (.invokevirtual 148, 3) := by decide +kernel
theorem dX7_piece_5 : decode cX7_piece 5 = .ok (.ifCond .ne 9, 3) := by decide +kernel
theorem dX7_piece_8 : decode cX7_piece 8 = .ok (.aload_n 0, 1) := by decide +kernel
theorem dX7_piece_9 : decode cX7_piece 9 = .ok (.iconst (-1), 1) := by decide +kernel
theorem dX7_piece_10 : decode cX7_piece 10 = .ok (.invokevirtual 106, 3) := by decide +kernel
theorem dX7_piece_13 : decode cX7_piece 13 = .ok (.ireturn, 1) := by decide +kernel
theorem dX7_piece_14 : decode cX7_piece 14 = .ok (.aload_n 0, 1) := by decide +kernel
theorem dX7_piece_15 : decode cX7_piece 15 = .ok (.iload_n 1, 1) := by decide +kernel
theorem dX7_piece_16 : decode cX7_piece 16 = .ok (.invokevirtual 152, 3) := by decide +kernel
theorem dX7_piece_19 : decode cX7_piece 19 = .ok (.ifCond .ne 10, 3) := by decide +kernel
theorem dX7_piece_22 : decode cX7_piece 22 = .ok (.aload_n 0, 1) := by decide +kernel
theorem dX7_piece_23 : decode cX7_piece 23 = .ok (.bipush (-3), 2) := by decide +kernel
theorem dX7_piece_25 : decode cX7_piece 25 = .ok (.invokevirtual 106, 3) := by decide +kernel
theorem dX7_piece_28 : decode cX7_piece 28 = .ok (.ireturn, 1) := by decide +kernel
theorem dX7_piece_29 : decode cX7_piece 29 = .ok (.aload_n 0, 1) := by decide +kernel
theorem dX7_piece_30 : decode cX7_piece 30 = .ok (.invokevirtual 207, 3) := by decide +kernel
theorem dX7_piece_33 : decode cX7_piece 33 = .ok (.aload_n 0, 1) := by decide +kernel
theorem dX7_piece_34 : decode cX7_piece 34 = .ok (.iload_n 1, 1) := by decide +kernel
theorem dX7_piece_35 : decode cX7_piece 35 = .ok (.invokevirtual 210, 3) := by decide +kernel
theorem dX7_piece_38 : decode cX7_piece 38 = .ok (.ireturn, 1) := by decide +kernel
theorem dX7_pieceOf_0 : decode cX7_pieceOf 0 = .ok (.aload_n 0, 1) := by decide +kernel
theorem dX7_pieceOf_1 : decode cX7_pieceOf 1 = .ok (.invokevirtual 207, 3) := by decide +kernel
theorem dX7_pieceOf_4 : decode cX7_pieceOf 4 = .ok (.iload_n 1, 1) := by decide +kernel
theorem dX7_pieceOf_5 : decode cX7_pieceOf 5 = .ok (.aload_n 0, 1) := by decide +kernel
theorem dX7_pieceOf_6 : decode cX7_pieceOf 6 = .ok (.getfield 204, 3) := by decide +kernel
theorem dX7_pieceOf_9 : decode cX7_pieceOf 9 = .ok (.invokestatic 98, 3) := by decide +kernel
theorem dX7_pieceOf_12 : decode cX7_pieceOf 12 = .ok (.ifCond .ne 9, 3) := by decide +kernel
theorem dX7_pieceOf_15 : decode cX7_pieceOf 15 = .ok (.aload_n 0, 1) := by decide +kernel
theorem dX7_pieceOf_16 : decode cX7_pieceOf 16 = .ok (.iconst (-1), 1) := by decide +kernel
theorem dX7_pieceOf_17 : decode cX7_pieceOf 17 = .ok (.invokevirtual 106, 3) := by decide +kernel
theorem dX7_pieceOf_20 : decode cX7_pieceOf 20 = .ok (.ireturn, 1) := by decide +kernel
theorem dX7_pieceOf_21 : decode cX7_pieceOf 21 = .ok (.iload_n 2, 1) := by decide +kernel
theorem dX7_pieceOf_22 : decode cX7_pieceOf 22 = .ok (.tableswitch 89 0 3 #[30, 41, 60, 79], 30) := by decide +kernel
theorem dX7_pieceOf_52 : decode cX7_pieceOf 52 = .ok (.aload_n 0, 1) := by decide +kernel
theorem dX7_pieceOf_53 : decode cX7_pieceOf 53 = .ok (.aload_n 0, 1) := by decide +kernel
theorem dX7_pieceOf_54 : decode cX7_pieceOf 54 = .ok (.getfield 60, 3) := by decide +kernel
theorem dX7_pieceOf_57 : decode cX7_pieceOf 57 = .ok (.iload_n 1, 1) := by decide +kernel
theorem dX7_pieceOf_58 : decode cX7_pieceOf 58 = .ok (.laload, 1) := by decide +kernel
theorem dX7_pieceOf_59 : decode cX7_pieceOf 59 = .ok (.invokevirtual 180, 3) := by decide +kernel
theorem dX7_pieceOf_62 : decode cX7_pieceOf 62 = .ok (.ireturn, 1) := by decide +kernel
theorem dX7_pieceOf_63 : decode cX7_pieceOf 63 = .ok (.aload_n 0, 1) := by decide +kernel
theorem dX7_pieceOf_64 : decode cX7_pieceOf 64 = .ok (.aload_n 0, 1) := by decide +kernel
theorem dX7_pieceOf_65 : decode cX7_pieceOf 65 = .ok (.getfield 60, 3) := by decide +kernel
theorem dX7_pieceOf_68 : decode cX7_pieceOf 68 = .ok (.iload_n 1, 1) := by decide +kernel
theorem dX7_pieceOf_69 : decode cX7_pieceOf 69 = .ok (.laload, 1) := by decide +kernel
theorem dX7_pieceOf_70 : decode cX7_pieceOf 70 = .ok (.invokevirtual 190, 3) := by decide +kernel
theorem dX7_pieceOf_73 : decode cX7_pieceOf 73 = .ok (.ifCond .eq 7, 3) := by decide +kernel
theorem dX7_pieceOf_76 : decode cX7_pieceOf 76 = .ok (.iconst 1, 1) := by decide +kernel
theorem dX7_pieceOf_77 : decode cX7_pieceOf 77 = .ok (.goto 4, 3) := by decide +kernel
theorem dX7_pieceOf_80 : decode cX7_pieceOf 80 = .ok (.iconst 0, 1) := by decide +kernel
theorem dX7_pieceOf_81 : decode cX7_pieceOf 81 = .ok (.ireturn, 1) := by decide +kernel
theorem dX7_pieceOf_82 : decode cX7_pieceOf 82 = .ok (.aload_n 0, 1) := by decide +kernel
theorem dX7_pieceOf_83 : decode cX7_pieceOf 83 = .ok (.aload_n 0, 1) := by decide +kernel
theorem dX7_pieceOf_84 : decode cX7_pieceOf 84 = .ok (.getfield 60, 3) := by decide +kernel
theorem dX7_pieceOf_87 : decode cX7_pieceOf 87 = .ok (.iload_n 1, 1) := by decide +kernel
theorem dX7_pieceOf_88 : decode cX7_pieceOf 88 = .ok (.laload, 1) := by decide +kernel
theorem dX7_pieceOf_89 : decode cX7_pieceOf 89 = .ok (.invokevirtual 194, 3) := by decide +kernel
theorem dX7_pieceOf_92 : decode cX7_pieceOf 92 = .ok (.ifCond .eq 7, 3) := by decide +kernel
theorem dX7_pieceOf_95 : decode cX7_pieceOf 95 = .ok (.iconst 1, 1) := by decide +kernel
theorem dX7_pieceOf_96 : decode cX7_pieceOf 96 = .ok (.goto 4, 3) := by decide +kernel
theorem dX7_pieceOf_99 : decode cX7_pieceOf 99 = .ok (.iconst 0, 1) := by decide +kernel
theorem dX7_pieceOf_100 : decode cX7_pieceOf 100 = .ok (.ireturn, 1) := by decide +kernel
theorem dX7_pieceOf_101 : decode cX7_pieceOf 101 = .ok (.aload_n 0, 1) := by decide +kernel
theorem dX7_pieceOf_102 : decode cX7_pieceOf 102 = .ok (.getfield 60, 3) := by decide +kernel
theorem dX7_pieceOf_105 : decode cX7_pieceOf 105 = .ok (.iload_n 1, 1) := by decide +kernel
theorem dX7_pieceOf_106 : decode cX7_pieceOf 106 = .ok (.laload, 1) := by decide +kernel
theorem dX7_pieceOf_107 : decode cX7_pieceOf 107 = .ok (.invokestatic 213, 3) := by decide +kernel
theorem dX7_pieceOf_110 : decode cX7_pieceOf 110 = .ok (.ireturn, 1) := by decide +kernel
theorem dX7_pieceOf_111 : decode cX7_pieceOf 111 = .ok (.aload_n 0, 1) := by decide +kernel
theorem dX7_pieceOf_112 : decode cX7_pieceOf 112 = .ok (.bipush (-2), 2) := by decide +kernel
theorem dX7_pieceOf_114 : decode cX7_pieceOf 114 = .ok (.invokevirtual 106, 3) := by decide +kernel
theorem dX7_pieceOf_117 : decode cX7_pieceOf 117 = .ok (.ireturn, 1) := by decide +kernel
theorem dX7_key_0 : decode cX7_key 0 = .ok (.aload_n 0, 1) := by decide +kernel
theorem dX7_key_1 : decode cX7_key 1 = .ok (.iload_n 1, 1) := by decide +kernel
theorem dX7_key_2 : decode cX7_key 2 = .ok (.invokevirtual 148, 3) := by decide +kernel
theorem dX7_key_5 : decode cX7_key 5 = .ok (.ifCond .ne 9, 3) := by decide +kernel
theorem dX7_key_8 : decode cX7_key 8 = .ok (.aload_n 0, 1) := by decide +kernel
theorem dX7_key_9 : decode cX7_key 9 = .ok (.iconst (-1), 1) := by decide +kernel
theorem dX7_key_10 : decode cX7_key 10 = .ok (.invokevirtual 106, 3) := by decide +kernel
theorem dX7_key_13 : decode cX7_key 13 = .ok (.ireturn, 1) := by decide +kernel
theorem dX7_key_14 : decode cX7_key 14 = .ok (.aload_n 0, 1) := by decide +kernel
theorem dX7_key_15 : decode cX7_key 15 = .ok (.iload_n 1, 1) := by decide +kernel
theorem dX7_key_16 : decode cX7_key 16 = .ok (.invokevirtual 152, 3) := by decide +kernel
theorem dX7_key_19 : decode cX7_key 19 = .ok (.ifCond .ne 10, 3) := by decide +kernel
theorem dX7_key_22 : decode cX7_key 22 = .ok (.aload_n 0, 1) := by decide +kernel
theorem dX7_key_23 : decode cX7_key 23 = .ok (.bipush (-3), 2) := by decide +kernel
theorem dX7_key_25 : decode cX7_key 25 = .ok (.invokevirtual 106, 3) := by decide +kernel
theorem dX7_key_28 : decode cX7_key 28 = .ok (.ireturn, 1) := by decide +kernel
theorem dX7_key_29 : decode cX7_key 29 = .ok (.aload_n 0, 1) := by decide +kernel
theorem dX7_key_30 : decode cX7_key 30 = .ok (.invokevirtual 207, 3) := by decide +kernel
theorem dX7_key_33 : decode cX7_key 33 = .ok (.aload_n 0, 1) := by decide +kernel
theorem dX7_key_34 : decode cX7_key 34 = .ok (.aload_n 0, 1) := by decide +kernel
theorem dX7_key_35 : decode cX7_key 35 = .ok (.getfield 60, 3) := by decide +kernel
theorem dX7_key_38 : decode cX7_key 38 = .ok (.aload_n 0, 1) := by decide +kernel
theorem dX7_key_39 : decode cX7_key 39 = .ok (.iload_n 1, 1) := by decide +kernel
theorem dX7_key_40 : decode cX7_key 40 = .ok (.invokevirtual 210, 3) := by decide +kernel
theorem dX7_key_43 : decode cX7_key 43 = .ok (.laload, 1) := by decide +kernel
theorem dX7_key_44 : decode cX7_key 44 = .ok (.iload_n 1, 1) := by decide +kernel
theorem dX7_key_45 : decode cX7_key 45 = .ok (.invokevirtual 197, 3) := by decide +kernel
theorem dX7_key_48 : decode cX7_key 48 = .ok (.ifCond .ge 7, 3) := by decide +kernel
theorem dX7_key_51 : decode cX7_key 51 = .ok (.iconst 0, 1) := by decide +kernel
theorem dX7_key_52 : decode cX7_key 52 = .ok (.goto 4, 3) := by decide +kernel
theorem dX7_key_55 : decode cX7_key 55 = .ok (.iconst 1, 1) := by decide +kernel
theorem dX7_key_56 : decode cX7_key 56 = .ok (.ireturn, 1) := by decide +kernel
theorem dX7_weak_0 : decode cX7_weak 0 = .ok (.aload_n 0, 1) := by decide +kernel
theorem dX7_weak_1 : decode cX7_weak 1 = .ok (.iload_n 1, 1) := by decide +kernel
theorem dX7_weak_2 : decode cX7_weak 2 = .ok (.invokevirtual 148, 3) := by decide +kernel
theorem dX7_weak_5 : decode cX7_weak 5 = .ok (.ifCond .ne 9, 3) := by decide +kernel
theorem dX7_weak_8 : decode cX7_weak 8 = .ok (.aload_n 0, 1) := by decide +kernel
theorem dX7_weak_9 : decode cX7_weak 9 = .ok (.iconst (-1), 1) := by decide +kernel
theorem dX7_weak_10 : decode cX7_weak 10 = .ok (.invokevirtual 106, 3) := by decide +kernel
theorem dX7_weak_13 : decode cX7_weak 13 = .ok (.ireturn, 1) := by decide +kernel
theorem dX7_weak_14 : decode cX7_weak 14 = .ok (.aload_n 0, 1) := by decide +kernel
theorem dX7_weak_15 : decode cX7_weak 15 = .ok (.iload_n 1, 1) := by decide +kernel
theorem dX7_weak_16 : decode cX7_weak 16 = .ok (.invokevirtual 152, 3) := by decide +kernel
theorem dX7_weak_19 : decode cX7_weak 19 = .ok (.ifCond .ne 10, 3) := by decide +kernel
theorem dX7_weak_22 : decode cX7_weak 22 = .ok (.aload_n 0, 1) := by decide +kernel
theorem dX7_weak_23 : decode cX7_weak 23 = .ok (.bipush (-3), 2) := by decide +kernel
theorem dX7_weak_25 : decode cX7_weak 25 = .ok (.invokevirtual 106, 3) := by decide +kernel
theorem dX7_weak_28 : decode cX7_weak 28 = .ok (.ireturn, 1) := by decide +kernel
theorem dX7_weak_29 : decode cX7_weak 29 = .ok (.aload_n 0, 1) := by decide +kernel
theorem dX7_weak_30 : decode cX7_weak 30 = .ok (.invokevirtual 207, 3) := by decide +kernel
theorem dX7_weak_33 : decode cX7_weak 33 = .ok (.iconst 0, 1) := by decide +kernel
theorem dX7_weak_34 : decode cX7_weak 34 = .ok (.aload_n 0, 1) := by decide +kernel
theorem dX7_weak_35 : decode cX7_weak 35 = .ok (.aload_n 0, 1) := by decide +kernel
theorem dX7_weak_36 : decode cX7_weak 36 = .ok (.getfield 60, 3) := by decide +kernel
theorem dX7_weak_39 : decode cX7_weak 39 = .ok (.aload_n 0, 1) := by decide +kernel
theorem dX7_weak_40 : decode cX7_weak 40 = .ok (.iload_n 1, 1) := by decide +kernel
theorem dX7_weak_41 : decode cX7_weak 41 = .ok (.invokevirtual 210, 3) := by decide +kernel
theorem dX7_weak_44 : decode cX7_weak 44 = .ok (.laload, 1) := by decide +kernel
theorem dX7_weak_45 : decode cX7_weak 45 = .ok (.iload_n 1, 1) := by decide +kernel
theorem dX7_weak_46 : decode cX7_weak 46 = .ok (.invokevirtual 197, 3) := by decide +kernel
theorem dX7_weak_49 : decode cX7_weak 49 = .ok (.invokestatic 165, 3) := by decide +kernel
theorem dX7_weak_52 : decode cX7_weak 52 = .ok (.ireturn, 1) := by decide +kernel
theorem dX7_sound_0 : decode cX7_sound 0 = .ok (.aload_n 0, 1) := by decide +kernel
theorem dX7_sound_1 : decode cX7_sound 1 = .ok (.invokevirtual 201, 3) := by decide +kernel
theorem dX7_sound_4 : decode cX7_sound 4 = .ok (.aload_n 0, 1) := by decide +kernel
theorem dX7_sound_5 : decode cX7_sound 5 = .ok (.aload_n 0, 1) := by decide +kernel
theorem dX7_sound_6 : decode cX7_sound 6 = .ok (.getfield 140, 3) := by decide +kernel
theorem dX7_sound_9 : decode cX7_sound 9 = .ok (.invokevirtual 216, 3) := by decide +kernel
theorem dX7_sound_12 : decode cX7_sound 12 = .ok (.ifCond .eq 7, 3) := by decide +kernel
theorem dX7_sound_15 : decode cX7_sound 15 = .ok (.iconst 1, 1) := by decide +kernel
theorem dX7_sound_16 : decode cX7_sound 16 = .ok (.goto 4, 3) := by decide +kernel
theorem dX7_sound_19 : decode cX7_sound 19 = .ok (.iconst 0, 1) := by decide +kernel
theorem dX7_sound_20 : decode cX7_sound 20 = .ok (.ireturn, 1) := by decide +kernel
theorem dX7_grip_0 : decode cX7_grip 0 = .ok (.iload_n 1, 1) := by decide +kernel
theorem dX7_grip_1 : decode cX7_grip 1 = .ok (.iconst 1, 1) := by decide +kernel
theorem dX7_grip_2 : decode cX7_grip 2 = .ok (.bipush 40, 2) := by decide +kernel
theorem dX7_grip_4 : decode cX7_grip 4 = .ok (.invokestatic 219, 3) := by decide +kernel
theorem dX7_grip_7 : decode cX7_grip 7 = .ok (.istore_n 2, 1) := by decide +kernel
theorem dX7_grip_8 : decode cX7_grip 8 = .ok (.iload_n 2, 1) := by decide +kernel
theorem dX7_grip_9 : decode cX7_grip 9 = .ok (.ifCond .eq 9, 3) := by decide +kernel
theorem dX7_grip_12 : decode cX7_grip 12 = .ok (.aload_n 0, 1) := by decide +kernel
theorem dX7_grip_13 : decode cX7_grip 13 = .ok (.iload_n 2, 1) := by decide +kernel
theorem dX7_grip_14 : decode cX7_grip 14 = .ok (.invokevirtual 106, 3) := by decide +kernel
theorem dX7_grip_17 : decode cX7_grip 17 = .ok (.ireturn, 1) := by decide +kernel
theorem dX7_grip_18 : decode cX7_grip 18 = .ok (.aload_n 0, 1) := by decide +kernel
theorem dX7_grip_19 : decode cX7_grip 19 = .ok (.getfield 40, 3) := by decide +kernel
theorem dX7_grip_22 : decode cX7_grip 22 = .ok (.istore_n 3, 1) := by decide +kernel
theorem dX7_grip_23 : decode cX7_grip 23 = .ok (.aload_n 0, 1) := by decide +kernel
theorem dX7_grip_24 : decode cX7_grip 24 = .ok (.iload_n 1, 1) := by decide +kernel
theorem dX7_grip_25 : decode cX7_grip 25 = .ok (.putfield 40, 3) := by decide +kernel
theorem dX7_grip_28 : decode cX7_grip 28 = .ok (.iload_n 3, 1) := by decide +kernel
theorem dX7_grip_29 : decode cX7_grip 29 = .ok (.ireturn, 1) := by decide +kernel
theorem dX7_fit_0 : decode cX7_fit 0 = .ok (.iload_n 1, 1) := by decide +kernel
theorem dX7_fit_1 : decode cX7_fit 1 = .ok (.iconst 3, 1) := by decide +kernel
theorem dX7_fit_2 : decode cX7_fit 2 = .ok (.invokestatic 98, 3) := by decide +kernel
theorem dX7_fit_5 : decode cX7_fit 5 = .ok (.ifCond .ne 10, 3) := by decide +kernel
theorem dX7_fit_8 : decode cX7_fit 8 = .ok (.aload_n 0, 1) := by decide +kernel
theorem dX7_fit_9 : decode cX7_fit 9 = .ok (.bipush (-2), 2) := by decide +kernel
theorem dX7_fit_11 : decode cX7_fit 11 = .ok (.invokevirtual 106, 3) := by decide +kernel
theorem dX7_fit_14 : decode cX7_fit 14 = .ok (.ireturn, 1) := by decide +kernel
theorem dX7_fit_15 : decode cX7_fit 15 = .ok (.iconst 0, 1) := by decide +kernel
theorem dX7_fit_16 : decode cX7_fit 16 = .ok (.istore_n 2, 1) := by decide +kernel
theorem dX7_fit_17 : decode cX7_fit 17 = .ok (.iconst 0, 1) := by decide +kernel
theorem dX7_fit_18 : decode cX7_fit 18 = .ok (.istore_n 3, 1) := by decide +kernel
theorem dX7_fit_19 : decode cX7_fit 19 = .ok (.iload_n 3, 1) := by decide +kernel
theorem dX7_fit_20 : decode cX7_fit 20 = .ok (.sipush 180, 3) := by decide +kernel
theorem dX7_fit_23 : decode cX7_fit 23 = .ok (.if_icmp .ge 158, 3) := by decide +kernel
theorem dX7_fit_26 : decode cX7_fit 26 = .ok (.aload_n 0, 1) := by decide +kernel
theorem dX7_fit_27 : decode cX7_fit 27 = .ok (.getfield 13, 3) := by decide +kernel
theorem dX7_fit_30 : decode cX7_fit 30 = .ok (.iload_n 3, 1) := by decide +kernel
theorem dX7_fit_31 : decode cX7_fit 31 = .ok (.iaload, 1) := by decide +kernel
theorem dX7_fit_32 : decode cX7_fit 32 = .ok (.ifCond .le 7, 3) := by decide +kernel
theorem dX7_fit_35 : decode cX7_fit 35 = .ok (.iconst 1, 1) := by decide +kernel
theorem dX7_fit_36 : decode cX7_fit 36 = .ok (.goto 4, 3) := by decide +kernel
theorem dX7_fit_39 : decode cX7_fit 39 = .ok (.iconst 0, 1) := by decide +kernel
theorem dX7_fit_40 : decode cX7_fit 40 = .ok (.istore 4, 2) := by decide +kernel
theorem dX7_fit_42 : decode cX7_fit 42 = .ok (.aload_n 0, 1) := by decide +kernel
theorem dX7_fit_43 : decode cX7_fit 43 = .ok (.getfield 16, 3) := by decide +kernel
theorem dX7_fit_46 : decode cX7_fit 46 = .ok (.iload_n 3, 1) := by decide +kernel
theorem dX7_fit_47 : decode cX7_fit 47 = .ok (.iaload, 1) := by decide +kernel
theorem dX7_fit_48 : decode cX7_fit 48 = .ok (.ifCond .lt 7, 3) := by decide +kernel
theorem dX7_fit_51 : decode cX7_fit 51 = .ok (.iconst 1, 1) := by decide +kernel
theorem dX7_fit_52 : decode cX7_fit 52 = .ok (.goto 4, 3) := by decide +kernel
theorem dX7_fit_55 : decode cX7_fit 55 = .ok (.iconst 0, 1) := by decide +kernel
theorem dX7_fit_56 : decode cX7_fit 56 = .ok (.istore 5, 2) := by decide +kernel
theorem dX7_fit_58 : decode cX7_fit 58 = .ok (.iload_n 1, 1) := by decide +kernel
theorem dX7_fit_59 : decode cX7_fit 59 = .ok (.ifCond .ne 21, 3) := by decide +kernel
theorem dX7_fit_62 : decode cX7_fit 62 = .ok (.iload 4, 2) := by decide +kernel
theorem dX7_fit_64 : decode cX7_fit 64 = .ok (.ifCond .eq 12, 3) := by decide +kernel
theorem dX7_fit_67 : decode cX7_fit 67 = .ok (.iload 5, 2) := by decide +kernel
theorem dX7_fit_69 : decode cX7_fit 69 = .ok (.ifCond .ne 7, 3) := by decide +kernel
theorem dX7_fit_72 : decode cX7_fit 72 = .ok (.iconst 1, 1) := by decide +kernel
theorem dX7_fit_73 : decode cX7_fit 73 = .ok (.goto 87, 3) := by decide +kernel
theorem dX7_fit_76 : decode cX7_fit 76 = .ok (.iconst 0, 1) := by decide +kernel
theorem dX7_fit_77 : decode cX7_fit 77 = .ok (.goto 83, 3) := by decide +kernel
theorem dX7_fit_80 : decode cX7_fit 80 = .ok (.iload_n 1, 1) := by decide +kernel
theorem dX7_fit_81 : decode cX7_fit 81 = .ok (.iconst 1, 1) := by decide +kernel
theorem dX7_fit_82 : decode cX7_fit 82 = .ok (.if_icmp .ne 63, 3) := by decide +kernel
theorem dX7_fit_85 : decode cX7_fit 85 = .ok (.iload 4, 2) := by decide +kernel
theorem dX7_fit_87 : decode cX7_fit 87 = .ok (.ifCond .eq 54, 3) := by decide +kernel
theorem dX7_fit_90 : decode cX7_fit 90 = .ok (.iload 5, 2) := by decide +kernel
theorem dX7_fit_92 : decode cX7_fit 92 = .ok (.ifCond .eq 49, 3) := by decide +kernel
theorem dX7_fit_95 : decode cX7_fit 95 = .ok (.aload_n 0, 1) := by decide +kernel
theorem dX7_fit_96 : decode cX7_fit 96 = .ok (.getfield 37, 3) := by decide +kernel
theorem dX7_fit_99 : decode cX7_fit 99 = .ok (.aload_n 0, 1) := by decide +kernel
theorem dX7_fit_100 : decode cX7_fit 100 = .ok (.getfield 16, 3) := by decide +kernel
theorem dX7_fit_103 : decode cX7_fit 103 = .ok (.iload_n 3, 1) := by decide +kernel
theorem dX7_fit_104 : decode cX7_fit 104 = .ok (.iaload, 1) := by decide +kernel
theorem dX7_fit_105 : decode cX7_fit 105 = .ok (.iaload, 1) := by decide +kernel
theorem dX7_fit_106 : decode cX7_fit 106 = .ok (.aload_n 0, 1) := by decide +kernel
theorem dX7_fit_107 : decode cX7_fit 107 = .ok (.getfield 13, 3) := by decide +kernel
theorem dX7_fit_110 : decode cX7_fit 110 = .ok (.iload_n 3, 1) := by decide +kernel
theorem dX7_fit_111 : decode cX7_fit 111 = .ok (.iaload, 1) := by decide +kernel
theorem dX7_fit_112 : decode cX7_fit 112 = .ok (.if_icmp .eq 29, 3) := by decide +kernel
theorem dX7_fit_115 : decode cX7_fit 115 = .ok (.aload_n 0, 1) := by decide +kernel
theorem dX7_fit_116 : decode cX7_fit 116 = .ok (.iload_n 3, 1) := by decide +kernel
theorem dX7_fit_117 : decode cX7_fit 117 = .ok (.bipush 6, 2) := by decide +kernel
theorem dX7_fit_119 : decode cX7_fit 119 = .ok (.irem, 1) := by decide +kernel
theorem dX7_fit_120 : decode cX7_fit 120 = .ok (.iload_n 3, 1) := by decide +kernel
theorem dX7_fit_121 : decode cX7_fit 121 = .ok (.bipush 6, 2) := by decide +kernel
theorem dX7_fit_123 : decode cX7_fit 123 = .ok (.idiv, 1) := by decide +kernel
theorem dX7_fit_124 : decode cX7_fit 124 = .ok (.bipush 6, 2) := by decide +kernel
theorem dX7_fit_126 : decode cX7_fit 126 = .ok (.irem, 1) := by decide +kernel
theorem dX7_fit_127 : decode cX7_fit 127 = .ok (.iload_n 3, 1) := by decide +kernel
theorem dX7_fit_128 : decode cX7_fit 128 = .ok (.bipush 36, 2) := by decide +kernel
theorem dX7_fit_130 : decode cX7_fit 130 = .ok (.idiv, 1) := by decide +kernel
theorem dX7_fit_131 : decode cX7_fit 131 = .ok (.invokevirtual 117, 3) := by decide +kernel
theorem dX7_fit_134 : decode cX7_fit 134 = .ok (.ifCond .ne 7, 3) := by decide +kernel
theorem dX7_fit_137 : decode cX7_fit 137 = .ok (.iconst 1, 1) := by decide +kernel
theorem dX7_fit_138 : decode cX7_fit 138 = .ok (.goto 22, 3) := by decide +kernel
theorem dX7_fit_141 : decode cX7_fit 141 = .ok (.iconst 0, 1) := by decide +kernel
theorem dX7_fit_142 : decode cX7_fit 142 = .ok (.goto 18, 3) := by decide +kernel
theorem dX7_fit_145 : decode cX7_fit 145 = .ok (.iload 5, 2) := by decide +kernel
theorem dX7_fit_147 : decode cX7_fit 147 = .ok (.ifCond .eq 12, 3) := by decide +kernel
theorem dX7_fit_150 : decode cX7_fit 150 = .ok (.iload 4, 2) := by decide +kernel
theorem dX7_fit_152 : decode cX7_fit 152 = .ok (.ifCond .ne 7, 3) := by decide +kernel
theorem dX7_fit_155 : decode cX7_fit 155 = .ok (.iconst 1, 1) := by decide +kernel
theorem dX7_fit_156 : decode cX7_fit 156 = .ok (.goto 4, 3) := by decide +kernel
theorem dX7_fit_159 : decode cX7_fit 159 = .ok (.iconst 0, 1) := by decide +kernel
theorem dX7_fit_160 : decode cX7_fit 160 = .ok (.istore 6, 2) := by decide +kernel
theorem dX7_fit_162 : decode cX7_fit 162 = .ok (.iload_n 2, 1) := by decide +kernel
theorem dX7_fit_163 : decode cX7_fit 163 = .ok (.iload 6, 2) := by decide +kernel
theorem dX7_fit_165 : decode cX7_fit 165 = .ok (.ifCond .eq 7, 3) := by decide +kernel
theorem dX7_fit_168 : decode cX7_fit 168 = .ok (.iconst 1, 1) := by decide +kernel
theorem dX7_fit_169 : decode cX7_fit 169 = .ok (.goto 4, 3) := by decide +kernel
theorem dX7_fit_172 : decode cX7_fit 172 = .ok (.iconst 0, 1) := by decide +kernel
theorem dX7_fit_173 : decode cX7_fit 173 = .ok (.iadd, 1) := by decide +kernel
theorem dX7_fit_174 : decode cX7_fit 174 = .ok (.istore_n 2, 1) := by decide +kernel
theorem dX7_fit_175 : decode cX7_fit 175 = .ok (.iinc 3 1, 3) := by decide +kernel
theorem dX7_fit_178 : decode cX7_fit 178 = .ok (.goto (-159), 3) := by decide +kernel
theorem dX7_fit_181 : decode cX7_fit 181 = .ok (.iload_n 2, 1) := by decide +kernel
theorem dX7_fit_182 : decode cX7_fit 182 = .ok (.ireturn, 1) := by decide +kernel
theorem dX7_isSeam_0 : decode cX7_isSeam 0 = .ok (.aload_n 0, 1) := by decide +kernel
theorem dX7_isSeam_1 : decode cX7_isSeam 1 = .ok (.getfield 16, 3) := by decide +kernel
theorem dX7_isSeam_4 : decode cX7_isSeam 4 = .ok (.iload_n 1, 1) := by decide +kernel
theorem dX7_isSeam_5 : decode cX7_isSeam 5 = .ok (.iaload, 1) := by decide +kernel
theorem dX7_isSeam_6 : decode cX7_isSeam 6 = .ok (.ifCond .lt 31, 3) := by decide +kernel
theorem dX7_isSeam_9 : decode cX7_isSeam 9 = .ok (.aload_n 0, 1) := by decide +kernel
theorem dX7_isSeam_10 : decode cX7_isSeam 10 = .ok (.getfield 16, 3) := by decide +kernel
theorem dX7_isSeam_13 : decode cX7_isSeam 13 = .ok (.iload_n 2, 1) := by decide +kernel
theorem dX7_isSeam_14 : decode cX7_isSeam 14 = .ok (.iaload, 1) := by decide +kernel
theorem dX7_isSeam_15 : decode cX7_isSeam 15 = .ok (.ifCond .lt 22, 3) := by decide +kernel
theorem dX7_isSeam_18 : decode cX7_isSeam 18 = .ok (.aload_n 0, 1) := by decide +kernel
theorem dX7_isSeam_19 : decode cX7_isSeam 19 = .ok (.getfield 16, 3) := by decide +kernel
theorem dX7_isSeam_22 : decode cX7_isSeam 22 = .ok (.iload_n 1, 1) := by decide +kernel
theorem dX7_isSeam_23 : decode cX7_isSeam 23 = .ok (.iaload, 1) := by decide +kernel
theorem dX7_isSeam_24 : decode cX7_isSeam 24 = .ok (.aload_n 0, 1) := by decide +kernel
theorem dX7_isSeam_25 : decode cX7_isSeam 25 = .ok (.getfield 16, 3) := by decide +kernel
theorem dX7_isSeam_28 : decode cX7_isSeam 28 = .ok (.iload_n 2, 1) := by decide +kernel
theorem dX7_isSeam_29 : decode cX7_isSeam 29 = .ok (.iaload, 1) := by decide +kernel
theorem dX7_isSeam_30 : decode cX7_isSeam 30 = .ok (.if_icmp .eq 7, 3) := by decide +kernel
theorem dX7_isSeam_33 : decode cX7_isSeam 33 = .ok (.iconst 1, 1) := by decide +kernel
theorem dX7_isSeam_34 : decode cX7_isSeam 34 = .ok (.goto 4, 3) := by decide +kernel
theorem dX7_isSeam_37 : decode cX7_isSeam 37 = .ok (.iconst 0, 1) := by decide +kernel
theorem dX7_isSeam_38 : decode cX7_isSeam 38 = .ok (.ireturn, 1) := by decide +kernel
theorem dX7_seams_0 : decode cX7_seams 0 = .ok (.iconst 0, 1) := by decide +kernel
theorem dX7_seams_1 : decode cX7_seams 1 = .ok (.istore_n 2, 1) := by decide +kernel
theorem dX7_seams_2 : decode cX7_seams 2 = .ok (.iconst 0, 1) := by decide +kernel
theorem dX7_seams_3 : decode cX7_seams 3 = .ok (.istore_n 3, 1) := by decide +kernel
theorem dX7_seams_4 : decode cX7_seams 4 = .ok (.iload_n 3, 1) := by decide +kernel
theorem dX7_seams_5 : decode cX7_seams 5 = .ok (.sipush 180, 3) := by decide +kernel
theorem dX7_seams_8 : decode cX7_seams 8 = .ok (.if_icmp .ge 107, 3) := by decide +kernel
theorem dX7_seams_11 : decode cX7_seams 11 = .ok (.iload_n 3, 1) := by decide +kernel
theorem dX7_seams_12 : decode cX7_seams 12 = .ok (.bipush 6, 2) := by decide +kernel
theorem dX7_seams_14 : decode cX7_seams 14 = .ok (.irem, 1) := by decide +kernel
theorem dX7_seams_15 : decode cX7_seams 15 = .ok (.iconst 5, 1) := by decide +kernel
theorem dX7_seams_16 : decode cX7_seams 16 = .ok (.if_icmp .ge 42, 3) := by decide +kernel
theorem dX7_seams_19 : decode cX7_seams 19 = .ok (.aload_n 0, 1) := by decide +kernel
theorem dX7_seams_20 : decode cX7_seams 20 = .ok (.iload_n 3, 1) := by decide +kernel
theorem dX7_seams_21 : decode cX7_seams 21 = .ok (.iload_n 3, 1) := by decide +kernel
theorem dX7_seams_22 : decode cX7_seams 22 = .ok (.iconst 1, 1) := by decide +kernel
theorem dX7_seams_23 : decode cX7_seams 23 = .ok (.iadd, 1) := by decide +kernel
theorem dX7_seams_24 : decode cX7_seams 24 = .ok (.invokevirtual 222, 3) := by decide +kernel
theorem dX7_seams_27 : decode cX7_seams 27 = .ok (.ifCond .eq 31, 3) := by decide +kernel
theorem dX7_seams_30 : decode cX7_seams 30 = .ok (.iload_n 1, 1) := by decide +kernel
theorem dX7_seams_31 : decode cX7_seams 31 = .ok (.ifCond .eq 24, 3) := by decide +kernel
theorem dX7_seams_34 : decode cX7_seams 34 = .ok (.iload_n 3, 1) := by decide +kernel
theorem dX7_seams_35 : decode cX7_seams 35 = .ok (.bipush 36, 2) := by decide +kernel
theorem dX7_seams_37 : decode cX7_seams 37 = .ok (.if_icmp .lt 21, 3) := by decide +kernel
theorem dX7_seams_40 : decode cX7_seams 40 = .ok (.aload_n 0, 1) := by decide +kernel
theorem dX7_seams_41 : decode cX7_seams 41 = .ok (.iload_n 3, 1) := by decide +kernel
theorem dX7_seams_42 : decode cX7_seams 42 = .ok (.bipush 36, 2) := by decide +kernel
theorem dX7_seams_44 : decode cX7_seams 44 = .ok (.isub, 1) := by decide +kernel
theorem dX7_seams_45 : decode cX7_seams 45 = .ok (.iload_n 3, 1) := by decide +kernel
theorem dX7_seams_46 : decode cX7_seams 46 = .ok (.bipush 35, 2) := by decide +kernel
theorem dX7_seams_48 : decode cX7_seams 48 = .ok (.isub, 1) := by decide +kernel
theorem dX7_seams_49 : decode cX7_seams 49 = .ok (.invokevirtual 222, 3) := by decide +kernel
theorem dX7_seams_52 : decode cX7_seams 52 = .ok (.ifCond .eq 6, 3) := by decide +kernel
theorem dX7_seams_55 : decode cX7_seams 55 = .ok (.iinc 2 1, 3) := by decide +kernel
theorem dX7_seams_58 : decode cX7_seams 58 = .ok (.iload_n 3, 1) := by decide +kernel
theorem dX7_seams_59 : decode cX7_seams 59 = .ok (.bipush 6, 2) := by decide +kernel
theorem dX7_seams_61 : decode cX7_seams 61 = .ok (.idiv, 1) := by decide +kernel
theorem dX7_seams_62 : decode cX7_seams 62 = .ok (.bipush 6, 2) := by decide +kernel
theorem dX7_seams_64 : decode cX7_seams 64 = .ok (.irem, 1) := by decide +kernel
theorem dX7_seams_65 : decode cX7_seams 65 = .ok (.iconst 5, 1) := by decide +kernel
theorem dX7_seams_66 : decode cX7_seams 66 = .ok (.if_icmp .ge 43, 3) := by decide +kernel
theorem dX7_seams_69 : decode cX7_seams 69 = .ok (.aload_n 0, 1) := by decide +kernel
theorem dX7_seams_70 : decode cX7_seams 70 = .ok (.iload_n 3, 1) := by decide +kernel
theorem dX7_seams_71 : decode cX7_seams 71 = .ok (.iload_n 3, 1) := by decide +kernel
theorem dX7_seams_72 : decode cX7_seams 72 = .ok (.bipush 6, 2) := by decide +kernel
theorem dX7_seams_74 : decode cX7_seams 74 = .ok (.iadd, 1) := by decide +kernel
theorem dX7_seams_75 : decode cX7_seams 75 = .ok (.invokevirtual 222, 3) := by decide +kernel
theorem dX7_seams_78 : decode cX7_seams 78 = .ok (.ifCond .eq 31, 3) := by decide +kernel
theorem dX7_seams_81 : decode cX7_seams 81 = .ok (.iload_n 1, 1) := by decide +kernel
theorem dX7_seams_82 : decode cX7_seams 82 = .ok (.ifCond .eq 24, 3) := by decide +kernel
theorem dX7_seams_85 : decode cX7_seams 85 = .ok (.iload_n 3, 1) := by decide +kernel
theorem dX7_seams_86 : decode cX7_seams 86 = .ok (.bipush 36, 2) := by decide +kernel
theorem dX7_seams_88 : decode cX7_seams 88 = .ok (.if_icmp .lt 21, 3) := by decide +kernel
theorem dX7_seams_91 : decode cX7_seams 91 = .ok (.aload_n 0, 1) := by decide +kernel
theorem dX7_seams_92 : decode cX7_seams 92 = .ok (.iload_n 3, 1) := by decide +kernel
theorem dX7_seams_93 : decode cX7_seams 93 = .ok (.bipush 36, 2) := by decide +kernel
theorem dX7_seams_95 : decode cX7_seams 95 = .ok (.isub, 1) := by decide +kernel
theorem dX7_seams_96 : decode cX7_seams 96 = .ok (.iload_n 3, 1) := by decide +kernel
theorem dX7_seams_97 : decode cX7_seams 97 = .ok (.bipush 30, 2) := by decide +kernel
theorem dX7_seams_99 : decode cX7_seams 99 = .ok (.isub, 1) := by decide +kernel
theorem dX7_seams_100 : decode cX7_seams 100 = .ok (.invokevirtual 222, 3) := by decide +kernel
theorem dX7_seams_103 : decode cX7_seams 103 = .ok (.ifCond .eq 6, 3) := by decide +kernel
theorem dX7_seams_106 : decode cX7_seams 106 = .ok (.iinc 2 1, 3) := by decide +kernel
theorem dX7_seams_109 : decode cX7_seams 109 = .ok (.iinc 3 1, 3) := by decide +kernel
theorem dX7_seams_112 : decode cX7_seams 112 = .ok (.goto (-108), 3) := by decide +kernel
theorem dX7_seams_115 : decode cX7_seams 115 = .ok (.iload_n 2, 1) := by decide +kernel
theorem dX7_seams_116 : decode cX7_seams 116 = .ok (.ireturn, 1) := by decide +kernel
theorem dX7_cost_0 : decode cX7_cost 0 = .ok (.iload_n 1, 1) := by decide +kernel
theorem dX7_cost_1 : decode cX7_cost 1 = .ok (.bipush 36, 2) := by decide +kernel
theorem dX7_cost_3 : decode cX7_cost 3 = .ok (.if_icmp .lt 22, 3) := by decide +kernel
theorem dX7_cost_6 : decode cX7_cost 6 = .ok (.aload_n 0, 1) := by decide +kernel
theorem dX7_cost_7 : decode cX7_cost 7 = .ok (.iload_n 1, 1) := by decide +kernel
theorem dX7_cost_8 : decode cX7_cost 8 = .ok (.bipush 36, 2) := by decide +kernel
theorem dX7_cost_10 : decode cX7_cost 10 = .ok (.isub, 1) := by decide +kernel
theorem dX7_cost_11 : decode cX7_cost 11 = .ok (.iload_n 2, 1) := by decide +kernel
theorem dX7_cost_12 : decode cX7_cost 12 = .ok (.bipush 36, 2) := by decide +kernel
theorem dX7_cost_14 : decode cX7_cost 14 = .ok (.isub, 1) := by decide +kernel
theorem dX7_cost_15 : decode cX7_cost 15 = .ok (.invokevirtual 222, 3) := by decide +kernel
theorem dX7_cost_18 : decode cX7_cost 18 = .ok (.ifCond .eq 7, 3) := by decide +kernel
theorem dX7_cost_21 : decode cX7_cost 21 = .ok (.iconst 1, 1) := by decide +kernel
theorem dX7_cost_22 : decode cX7_cost 22 = .ok (.goto 4, 3) := by decide +kernel
theorem dX7_cost_25 : decode cX7_cost 25 = .ok (.iconst 0, 1) := by decide +kernel
theorem dX7_cost_26 : decode cX7_cost 26 = .ok (.iload_n 1, 1) := by decide +kernel
theorem dX7_cost_27 : decode cX7_cost 27 = .ok (.bipush 36, 2) := by decide +kernel
theorem dX7_cost_29 : decode cX7_cost 29 = .ok (.iadd, 1) := by decide +kernel
theorem dX7_cost_30 : decode cX7_cost 30 = .ok (.sipush 180, 3) := by decide +kernel
theorem dX7_cost_33 : decode cX7_cost 33 = .ok (.if_icmp .ge 22, 3) := by decide +kernel
theorem dX7_cost_36 : decode cX7_cost 36 = .ok (.aload_n 0, 1) := by decide +kernel
theorem dX7_cost_37 : decode cX7_cost 37 = .ok (.iload_n 1, 1) := by decide +kernel
theorem dX7_cost_38 : decode cX7_cost 38 = .ok (.bipush 36, 2) := by decide +kernel
theorem dX7_cost_40 : decode cX7_cost 40 = .ok (.iadd, 1) := by decide +kernel
theorem dX7_cost_41 : decode cX7_cost 41 = .ok (.iload_n 2, 1) := by decide +kernel
theorem dX7_cost_42 : decode cX7_cost 42 = .ok (.bipush 36, 2) := by decide +kernel
theorem dX7_cost_44 : decode cX7_cost 44 = .ok (.iadd, 1) := by decide +kernel
theorem dX7_cost_45 : decode cX7_cost 45 = .ok (.invokevirtual 222, 3) := by decide +kernel
theorem dX7_cost_48 : decode cX7_cost 48 = .ok (.ifCond .eq 7, 3) := by decide +kernel
theorem dX7_cost_51 : decode cX7_cost 51 = .ok (.iconst 1, 1) := by decide +kernel
theorem dX7_cost_52 : decode cX7_cost 52 = .ok (.goto 4, 3) := by decide +kernel
theorem dX7_cost_55 : decode cX7_cost 55 = .ok (.iconst 0, 1) := by decide +kernel
theorem dX7_cost_56 : decode cX7_cost 56 = .ok (.iadd, 1) := by decide +kernel
theorem dX7_cost_57 : decode cX7_cost 57 = .ok (.ireturn, 1) := by decide +kernel
theorem dX7_wrongCover_0 : decode cX7_wrongCover 0 = .ok (.iload_n 1, 1) := by decide +kernel
theorem dX7_wrongCover_1 : decode cX7_wrongCover 1 = .ok (.iconst 1, 1) := by decide +kernel
theorem dX7_wrongCover_2 : decode cX7_wrongCover 2 = .ok (.isub, 1) := by decide +kernel
theorem dX7_wrongCover_3 : decode cX7_wrongCover 3 = .ok (.iconst 5, 1) := by decide +kernel
theorem dX7_wrongCover_4 : decode cX7_wrongCover 4 = .ok (.invokestatic 98, 3) := by decide +kernel
theorem dX7_wrongCover_7 : decode cX7_wrongCover 7 = .ok (.ifCond .eq 11, 3) := by decide +kernel
theorem dX7_wrongCover_10 : decode cX7_wrongCover 10 = .ok (.iload_n 2, 1) := by decide +kernel
theorem dX7_wrongCover_11 : decode cX7_wrongCover 11 = .ok (.iconst 5, 1) := by decide +kernel
theorem dX7_wrongCover_12 : decode cX7_wrongCover 12 = .ok (.invokestatic 98, 3) := by decide +kernel
theorem dX7_wrongCover_15 : decode cX7_wrongCover 15 = .ok (.ifCond .ne 5, 3) := by decide +kernel
theorem dX7_wrongCover_18 : decode cX7_wrongCover 18 = .ok (.iconst (-1), 1) := by decide +kernel
theorem dX7_wrongCover_19 : decode cX7_wrongCover 19 = .ok (.ireturn, 1) := by decide +kernel
theorem dX7_wrongCover_20 : decode cX7_wrongCover 20 = .ok (.aload_n 0, 1) := by decide +kernel
theorem dX7_wrongCover_21 : decode cX7_wrongCover 21 = .ok (.iconst 0, 1) := by decide +kernel
theorem dX7_wrongCover_22 : decode cX7_wrongCover 22 = .ok (.putfield 225, 3) := by decide +kernel
theorem dX7_wrongCover_25 : decode cX7_wrongCover 25 = .ok (.iconst 0, 1) := by decide +kernel
theorem dX7_wrongCover_26 : decode cX7_wrongCover 26 = .ok (.istore_n 3, 1) := by decide +kernel
theorem dX7_wrongCover_27 : decode cX7_wrongCover 27 = .ok (.iload_n 3, 1) := by decide +kernel
theorem dX7_wrongCover_28 : decode cX7_wrongCover 28 = .ok (.bipush 36, 2) := by decide +kernel
theorem dX7_wrongCover_30 : decode cX7_wrongCover 30 = .ok (.if_icmp .ge 84, 3) := by decide +kernel
theorem dX7_wrongCover_33 : decode cX7_wrongCover 33 = .ok (.aload_n 0, 1) := by decide +kernel
theorem dX7_wrongCover_34 : decode cX7_wrongCover 34 = .ok (.getfield 73, 3) := by decide +kernel
theorem dX7_wrongCover_37 : decode cX7_wrongCover 37 = .ok (.iload_n 3, 1) := by decide +kernel
theorem dX7_wrongCover_38 : decode cX7_wrongCover 38 = .ok (.bipush (-9), 2) := by decide +kernel
theorem dX7_wrongCover_40 : decode cX7_wrongCover 40 = .ok (.iastore, 1) := by decide +kernel
theorem dX7_wrongCover_41 : decode cX7_wrongCover 41 = .ok (.aload_n 0, 1) := by decide +kernel
theorem dX7_wrongCover_42 : decode cX7_wrongCover 42 = .ok (.getfield 13, 3) := by decide +kernel
theorem dX7_wrongCover_45 : decode cX7_wrongCover 45 = .ok (.bipush 36, 2) := by decide +kernel
theorem dX7_wrongCover_47 : decode cX7_wrongCover 47 = .ok (.iload_n 2, 1) := by decide +kernel
theorem dX7_wrongCover_48 : decode cX7_wrongCover 48 = .ok (.imul, 1) := by decide +kernel
theorem dX7_wrongCover_49 : decode cX7_wrongCover 49 = .ok (.iload_n 3, 1) := by decide +kernel
theorem dX7_wrongCover_50 : decode cX7_wrongCover 50 = .ok (.iadd, 1) := by decide +kernel
theorem dX7_wrongCover_51 : decode cX7_wrongCover 51 = .ok (.iaload, 1) := by decide +kernel
theorem dX7_wrongCover_52 : decode cX7_wrongCover 52 = .ok (.iload_n 1, 1) := by decide +kernel
theorem dX7_wrongCover_53 : decode cX7_wrongCover 53 = .ok (.if_icmp .ne 55, 3) := by decide +kernel
theorem dX7_wrongCover_56 : decode cX7_wrongCover 56 = .ok (.aload_n 0, 1) := by decide +kernel
theorem dX7_wrongCover_57 : decode cX7_wrongCover 57 = .ok (.getfield 16, 3) := by decide +kernel
theorem dX7_wrongCover_60 : decode cX7_wrongCover 60 = .ok (.bipush 36, 2) := by decide +kernel
theorem dX7_wrongCover_62 : decode cX7_wrongCover 62 = .ok (.iload_n 2, 1) := by decide +kernel
theorem dX7_wrongCover_63 : decode cX7_wrongCover 63 = .ok (.imul, 1) := by decide +kernel
theorem dX7_wrongCover_64 : decode cX7_wrongCover 64 = .ok (.iload_n 3, 1) := by decide +kernel
theorem dX7_wrongCover_65 : decode cX7_wrongCover 65 = .ok (.iadd, 1) := by decide +kernel
theorem dX7_wrongCover_66 : decode cX7_wrongCover 66 = .ok (.iaload, 1) := by decide +kernel
theorem dX7_wrongCover_67 : decode cX7_wrongCover 67 = .ok (.ifCond .lt 6, 3) := by decide +kernel
theorem dX7_wrongCover_70 : decode cX7_wrongCover 70 = .ok (.goto 38, 3) := by decide +kernel
theorem dX7_wrongCover_73 : decode cX7_wrongCover 73 = .ok (.aload_n 0, 1) := by decide +kernel
theorem dX7_wrongCover_74 : decode cX7_wrongCover 74 = .ok (.getfield 73, 3) := by decide +kernel
theorem dX7_wrongCover_77 : decode cX7_wrongCover 77 = .ok (.iload_n 3, 1) := by decide +kernel
theorem dX7_wrongCover_78 : decode cX7_wrongCover 78 = .ok (.aload_n 0, 1) := by decide +kernel
theorem dX7_wrongCover_79 : decode cX7_wrongCover 79 = .ok (.getfield 225, 3) := by decide +kernel
theorem dX7_wrongCover_82 : decode cX7_wrongCover 82 = .ok (.iastore, 1) := by decide +kernel
theorem dX7_wrongCover_83 : decode cX7_wrongCover 83 = .ok (.aload_n 0, 1) := by decide +kernel
theorem dX7_wrongCover_84 : decode cX7_wrongCover 84 = .ok (.getfield 63, 3) := by decide +kernel
theorem dX7_wrongCover_87 : decode cX7_wrongCover 87 = .ok (.aload_n 0, 1) := by decide +kernel
theorem dX7_wrongCover_88 : decode cX7_wrongCover 88 = .ok (.getfield 225, 3) := by decide +kernel
theorem dX7_wrongCover_91 : decode cX7_wrongCover 91 = .ok (.bipush 36, 2) := by decide +kernel
theorem dX7_wrongCover_93 : decode cX7_wrongCover 93 = .ok (.iload_n 2, 1) := by decide +kernel
theorem dX7_wrongCover_94 : decode cX7_wrongCover 94 = .ok (.imul, 1) := by decide +kernel
theorem dX7_wrongCover_95 : decode cX7_wrongCover 95 = .ok (.iload_n 3, 1) := by decide +kernel
theorem dX7_wrongCover_96 : decode cX7_wrongCover 96 = .ok (.iadd, 1) := by decide +kernel
theorem dX7_wrongCover_97 : decode cX7_wrongCover 97 = .ok (.iastore, 1) := by decide +kernel
theorem dX7_wrongCover_98 : decode cX7_wrongCover 98 = .ok (.aload_n 0, 1) := by decide +kernel
theorem dX7_wrongCover_99 : decode cX7_wrongCover 99 = .ok (.dup, 1) := by decide +kernel
theorem dX7_wrongCover_100 : decode cX7_wrongCover 100 = .ok (.getfield 225, 3) := by decide +kernel
theorem dX7_wrongCover_103 : decode cX7_wrongCover 103 = .ok (.iconst 1, 1) := by decide +kernel
theorem dX7_wrongCover_104 : decode cX7_wrongCover 104 = .ok (.iadd, 1) := by decide +kernel
theorem dX7_wrongCover_105 : decode cX7_wrongCover 105 = .ok (.putfield 225, 3) := by decide +kernel
theorem dX7_wrongCover_108 : decode cX7_wrongCover 108 = .ok (.iinc 3 1, 3) := by decide +kernel
theorem dX7_wrongCover_111 : decode cX7_wrongCover 111 = .ok (.goto (-84), 3) := by decide +kernel
theorem dX7_wrongCover_114 : decode cX7_wrongCover 114 = .ok (.aload_n 0, 1) := by decide +kernel
theorem dX7_wrongCover_115 : decode cX7_wrongCover 115 = .ok (.getfield 225, 3) := by decide +kernel
theorem dX7_wrongCover_118 : decode cX7_wrongCover 118 = .ok (.bipush 16, 2) := by decide +kernel
theorem dX7_wrongCover_120 : decode cX7_wrongCover 120 = .ok (.if_icmp .le 8, 3) := by decide +kernel
theorem dX7_wrongCover_123 : decode cX7_wrongCover 123 = .ok (.bipush (-6), 2) := by decide +kernel
theorem dX7_wrongCover_125 : decode cX7_wrongCover 125 = .ok (.goto 4, 3) := by decide +kernel
theorem dX7_wrongCover_128 : decode cX7_wrongCover 128 = .ok (.iconst 0, 1) := by decide +kernel
theorem dX7_wrongCover_129 : decode cX7_wrongCover 129 = .ok (.ireturn, 1) := by decide +kernel
theorem dX7_shape_0 : decode cX7_shape 0 = .ok (.aload_n 0, 1) := by decide +kernel
theorem dX7_shape_1 : decode cX7_shape 1 = .ok (.getfield 63, 3) := by decide +kernel
theorem dX7_shape_4 : decode cX7_shape 4 = .ok (.iload_n 1, 1) := by decide +kernel
theorem dX7_shape_5 : decode cX7_shape 5 = .ok (.iaload, 1) := by decide +kernel
theorem dX7_shape_6 : decode cX7_shape 6 = .ok (.bipush 36, 2) := by decide +kernel
theorem dX7_shape_8 : decode cX7_shape 8 = .ok (.irem, 1) := by decide +kernel
theorem dX7_shape_9 : decode cX7_shape 9 = .ok (.istore 4, 2) := by decide +kernel
theorem dX7_shape_11 : decode cX7_shape 11 = .ok (.iconst 0, 1) := by decide +kernel
theorem dX7_shape_12 : decode cX7_shape 12 = .ok (.istore 5, 2) := by decide +kernel
theorem dX7_shape_14 : decode cX7_shape 14 = .ok (.iconst 0, 1) := by decide +kernel
theorem dX7_shape_15 : decode cX7_shape 15 = .ok (.istore 6, 2) := by decide +kernel
theorem dX7_shape_17 : decode cX7_shape 17 = .ok (.iload 6, 2) := by decide +kernel
theorem dX7_shape_19 : decode cX7_shape 19 = .ok (.iload_n 2, 1) := by decide +kernel
theorem dX7_shape_20 : decode cX7_shape 20 = .ok (.iload_n 3, 1) := by decide +kernel
theorem dX7_shape_21 : decode cX7_shape 21 = .ok (.invokestatic 126, 3) := by decide +kernel
theorem dX7_shape_24 : decode cX7_shape 24 = .ok (.if_icmp .ge 90, 3) := by decide +kernel
theorem dX7_shape_27 : decode cX7_shape 27 = .ok (.iconst 0, 1) := by decide +kernel
theorem dX7_shape_28 : decode cX7_shape 28 = .ok (.istore 7, 2) := by decide +kernel
theorem dX7_shape_30 : decode cX7_shape 30 = .ok (.iload 7, 2) := by decide +kernel
theorem dX7_shape_32 : decode cX7_shape 32 = .ok (.iload_n 2, 1) := by decide +kernel
theorem dX7_shape_33 : decode cX7_shape 33 = .ok (.iload_n 3, 1) := by decide +kernel
theorem dX7_shape_34 : decode cX7_shape 34 = .ok (.invokestatic 130, 3) := by decide +kernel
theorem dX7_shape_37 : decode cX7_shape 37 = .ok (.if_icmp .ge 71, 3) := by decide +kernel
theorem dX7_shape_40 : decode cX7_shape 40 = .ok (.iload 4, 2) := by decide +kernel
theorem dX7_shape_42 : decode cX7_shape 42 = .ok (.bipush 6, 2) := by decide +kernel
theorem dX7_shape_44 : decode cX7_shape 44 = .ok (.irem, 1) := by decide +kernel
theorem dX7_shape_45 : decode cX7_shape 45 = .ok (.iload 7, 2) := by decide +kernel
theorem dX7_shape_47 : decode cX7_shape 47 = .ok (.iadd, 1) := by decide +kernel
theorem dX7_shape_48 : decode cX7_shape 48 = .ok (.bipush 6, 2) := by decide +kernel
theorem dX7_shape_50 : decode cX7_shape 50 = .ok (.if_icmp .ge 16, 3) := by decide +kernel
theorem dX7_shape_53 : decode cX7_shape 53 = .ok (.iload 4, 2) := by decide +kernel
theorem dX7_shape_55 : decode cX7_shape 55 = .ok (.bipush 6, 2) := by decide +kernel
theorem dX7_shape_57 : decode cX7_shape 57 = .ok (.idiv, 1) := by decide +kernel
theorem dX7_shape_58 : decode cX7_shape 58 = .ok (.iload 6, 2) := by decide +kernel
theorem dX7_shape_60 : decode cX7_shape 60 = .ok (.iadd, 1) := by decide +kernel
theorem dX7_shape_61 : decode cX7_shape 61 = .ok (.bipush 6, 2) := by decide +kernel
theorem dX7_shape_63 : decode cX7_shape 63 = .ok (.if_icmp .lt 5, 3) := by decide +kernel
theorem dX7_shape_66 : decode cX7_shape 66 = .ok (.iconst 0, 1) := by decide +kernel
theorem dX7_shape_67 : decode cX7_shape 67 = .ok (.ireturn, 1) := by decide +kernel
theorem dX7_shape_68 : decode cX7_shape 68 = .ok (.aload_n 0, 1) := by decide +kernel
theorem dX7_shape_69 : decode cX7_shape 69 = .ok (.getfield 73, 3) := by decide +kernel
theorem dX7_shape_72 : decode cX7_shape 72 = .ok (.iload 4, 2) := by decide +kernel
theorem dX7_shape_74 : decode cX7_shape 74 = .ok (.bipush 6, 2) := by decide +kernel
theorem dX7_shape_76 : decode cX7_shape 76 = .ok (.iload 6, 2) := by decide +kernel
theorem dX7_shape_78 : decode cX7_shape 78 = .ok (.imul, 1) := by decide +kernel
theorem dX7_shape_79 : decode cX7_shape 79 = .ok (.iadd, 1) := by decide +kernel
theorem dX7_shape_80 : decode cX7_shape 80 = .ok (.iload 7, 2) := by decide +kernel
theorem dX7_shape_82 : decode cX7_shape 82 = .ok (.iadd, 1) := by decide +kernel
theorem dX7_shape_83 : decode cX7_shape 83 = .ok (.iaload, 1) := by decide +kernel
theorem dX7_shape_84 : decode cX7_shape 84 = .ok (.istore 8, 2) := by decide +kernel
theorem dX7_shape_86 : decode cX7_shape 86 = .ok (.iload 8, 2) := by decide +kernel
theorem dX7_shape_88 : decode cX7_shape 88 = .ok (.ifCond .ge 5, 3) := by decide +kernel
theorem dX7_shape_91 : decode cX7_shape 91 = .ok (.iconst 0, 1) := by decide +kernel
theorem dX7_shape_92 : decode cX7_shape 92 = .ok (.ireturn, 1) := by decide +kernel
theorem dX7_shape_93 : decode cX7_shape 93 = .ok (.iload 5, 2) := by decide +kernel
theorem dX7_shape_95 : decode cX7_shape 95 = .ok (.iconst 1, 1) := by decide +kernel
theorem dX7_shape_96 : decode cX7_shape 96 = .ok (.iload 8, 2) := by decide +kernel
theorem dX7_shape_98 : decode cX7_shape 98 = .ok (.ishl, 1) := by decide +kernel
theorem dX7_shape_99 : decode cX7_shape 99 = .ok (.ior, 1) := by decide +kernel
theorem dX7_shape_100 : decode cX7_shape 100 = .ok (.istore 5, 2) := by decide +kernel
theorem dX7_shape_102 : decode cX7_shape 102 = .ok (.iinc 7 1, 3) := by decide +kernel
theorem dX7_shape_105 : decode cX7_shape 105 = .ok (.goto (-75), 3) := by decide +kernel
theorem dX7_shape_108 : decode cX7_shape 108 = .ok (.iinc 6 1, 3) := by decide +kernel
theorem dX7_shape_111 : decode cX7_shape 111 = .ok (.goto (-94), 3) := by decide +kernel
theorem dX7_shape_114 : decode cX7_shape 114 = .ok (.iload 5, 2) := by decide +kernel
theorem dX7_shape_116 : decode cX7_shape 116 = .ok (.ireturn, 1) := by decide +kernel
theorem dX7_spares_0 : decode cX7_spares 0 = .ok (.iconst 0, 1) := by decide +kernel
theorem dX7_spares_1 : decode cX7_spares 1 = .ok (.istore_n 2, 1) := by decide +kernel
theorem dX7_spares_2 : decode cX7_spares 2 = .ok (.iconst 0, 1) := by decide +kernel
theorem dX7_spares_3 : decode cX7_spares 3 = .ok (.istore_n 3, 1) := by decide +kernel
theorem dX7_spares_4 : decode cX7_spares 4 = .ok (.iload_n 3, 1) := by decide +kernel
theorem dX7_spares_5 : decode cX7_spares 5 = .ok (.aload_n 0, 1) := by decide +kernel
theorem dX7_spares_6 : decode cX7_spares 6 = .ok (.getfield 225, 3) := by decide +kernel
theorem dX7_spares_9 : decode cX7_spares 9 = .ok (.if_icmp .ge 101, 3) := by decide +kernel
theorem dX7_spares_12 : decode cX7_spares 12 = .ok (.iload_n 1, 1) := by decide +kernel
theorem dX7_spares_13 : decode cX7_spares 13 = .ok (.iload_n 3, 1) := by decide +kernel
theorem dX7_spares_14 : decode cX7_spares 14 = .ok (.ishr, 1) := by decide +kernel
theorem dX7_spares_15 : decode cX7_spares 15 = .ok (.iconst 1, 1) := by decide +kernel
theorem dX7_spares_16 : decode cX7_spares 16 = .ok (.iand, 1) := by decide +kernel
theorem dX7_spares_17 : decode cX7_spares 17 = .ok (.ifCond .ne 6, 3) := by decide +kernel
theorem dX7_spares_20 : decode cX7_spares 20 = .ok (.goto 84, 3) := by decide +kernel
theorem dX7_spares_23 : decode cX7_spares 23 = .ok (.aload_n 0, 1) := by decide +kernel
theorem dX7_spares_24 : decode cX7_spares 24 = .ok (.getfield 63, 3) := by decide +kernel
theorem dX7_spares_27 : decode cX7_spares 27 = .ok (.iload_n 3, 1) := by decide +kernel
theorem dX7_spares_28 : decode cX7_spares 28 = .ok (.iaload, 1) := by decide +kernel
theorem dX7_spares_29 : decode cX7_spares 29 = .ok (.istore 4, 2) := by decide +kernel
theorem dX7_spares_31 : decode cX7_spares 31 = .ok (.iload 4, 2) := by decide +kernel
theorem dX7_spares_33 : decode cX7_spares 33 = .ok (.bipush 6, 2) := by decide +kernel
theorem dX7_spares_35 : decode cX7_spares 35 = .ok (.irem, 1) := by decide +kernel
theorem dX7_spares_36 : decode cX7_spares 36 = .ok (.iconst 5, 1) := by decide +kernel
theorem dX7_spares_37 : decode cX7_spares 37 = .ok (.if_icmp .ge 28, 3) := by decide +kernel
theorem dX7_spares_40 : decode cX7_spares 40 = .ok (.aload_n 0, 1) := by decide +kernel
theorem dX7_spares_41 : decode cX7_spares 41 = .ok (.iload_n 1, 1) := by decide +kernel
theorem dX7_spares_42 : decode cX7_spares 42 = .ok (.iload 4, 2) := by decide +kernel
theorem dX7_spares_44 : decode cX7_spares 44 = .ok (.iconst 1, 1) := by decide +kernel
theorem dX7_spares_45 : decode cX7_spares 45 = .ok (.iadd, 1) := by decide +kernel
theorem dX7_spares_46 : decode cX7_spares 46 = .ok (.invokevirtual 228, 3) := by decide +kernel
theorem dX7_spares_49 : decode cX7_spares 49 = .ok (.ifCond .eq 16, 3) := by decide +kernel
theorem dX7_spares_52 : decode cX7_spares 52 = .ok (.iload_n 2, 1) := by decide +kernel
theorem dX7_spares_53 : decode cX7_spares 53 = .ok (.aload_n 0, 1) := by decide +kernel
theorem dX7_spares_54 : decode cX7_spares 54 = .ok (.iload 4, 2) := by decide +kernel
theorem dX7_spares_56 : decode cX7_spares 56 = .ok (.iload 4, 2) := by decide +kernel
theorem dX7_spares_58 : decode cX7_spares 58 = .ok (.iconst 1, 1) := by decide +kernel
theorem dX7_spares_59 : decode cX7_spares 59 = .ok (.iadd, 1) := by decide +kernel
theorem dX7_spares_60 : decode cX7_spares 60 = .ok (.invokevirtual 231, 3) := by decide +kernel
theorem dX7_spares_63 : decode cX7_spares 63 = .ok (.iadd, 1) := by decide +kernel
theorem dX7_spares_64 : decode cX7_spares 64 = .ok (.istore_n 2, 1) := by decide +kernel
theorem dX7_spares_65 : decode cX7_spares 65 = .ok (.iload 4, 2) := by decide +kernel
theorem dX7_spares_67 : decode cX7_spares 67 = .ok (.bipush 6, 2) := by decide +kernel
theorem dX7_spares_69 : decode cX7_spares 69 = .ok (.idiv, 1) := by decide +kernel
theorem dX7_spares_70 : decode cX7_spares 70 = .ok (.bipush 6, 2) := by decide +kernel
theorem dX7_spares_72 : decode cX7_spares 72 = .ok (.irem, 1) := by decide +kernel
theorem dX7_spares_73 : decode cX7_spares 73 = .ok (.iconst 5, 1) := by decide +kernel
theorem dX7_spares_74 : decode cX7_spares 74 = .ok (.if_icmp .ge 30, 3) := by decide +kernel
theorem dX7_spares_77 : decode cX7_spares 77 = .ok (.aload_n 0, 1) := by decide +kernel
theorem dX7_spares_78 : decode cX7_spares 78 = .ok (.iload_n 1, 1) := by decide +kernel
theorem dX7_spares_79 : decode cX7_spares 79 = .ok (.iload 4, 2) := by decide +kernel
theorem dX7_spares_81 : decode cX7_spares 81 = .ok (.bipush 6, 2) := by decide +kernel
theorem dX7_spares_83 : decode cX7_spares 83 = .ok (.iadd, 1) := by decide +kernel
theorem dX7_spares_84 : decode cX7_spares 84 = .ok (.invokevirtual 228, 3) := by decide +kernel
theorem dX7_spares_87 : decode cX7_spares 87 = .ok (.ifCond .eq 17, 3) := by decide +kernel
theorem dX7_spares_90 : decode cX7_spares 90 = .ok (.iload_n 2, 1) := by decide +kernel
theorem dX7_spares_91 : decode cX7_spares 91 = .ok (.aload_n 0, 1) := by decide +kernel
theorem dX7_spares_92 : decode cX7_spares 92 = .ok (.iload 4, 2) := by decide +kernel
theorem dX7_spares_94 : decode cX7_spares 94 = .ok (.iload 4, 2) := by decide +kernel
theorem dX7_spares_96 : decode cX7_spares 96 = .ok (.bipush 6, 2) := by decide +kernel
theorem dX7_spares_98 : decode cX7_spares 98 = .ok (.iadd, 1) := by decide +kernel
theorem dX7_spares_99 : decode cX7_spares 99 = .ok (.invokevirtual 231, 3) := by decide +kernel
theorem dX7_spares_102 : decode cX7_spares 102 = .ok (.iadd, 1) := by decide +kernel
theorem dX7_spares_103 : decode cX7_spares 103 = .ok (.istore_n 2, 1) := by decide +kernel
theorem dX7_spares_104 : decode cX7_spares 104 = .ok (.iinc 3 1, 3) := by decide +kernel
theorem dX7_spares_107 : decode cX7_spares 107 = .ok (.goto (-103), 3) := by decide +kernel
theorem dX7_spares_110 : decode cX7_spares 110 = .ok (.iload_n 2, 1) := by decide +kernel
theorem dX7_spares_111 : decode cX7_spares 111 = .ok (.ireturn, 1) := by decide +kernel
theorem dX7_isOf_0 : decode cX7_isOf 0 = .ok (.aload_n 0, 1) := by decide +kernel
theorem dX7_isOf_1 : decode cX7_isOf 1 = .ok (.getfield 73, 3) := by decide +kernel
theorem dX7_isOf_4 : decode cX7_isOf 4 = .ok (.iload_n 2, 1) := by decide +kernel
theorem dX7_isOf_5 : decode cX7_isOf 5 = .ok (.bipush 36, 2) := by decide +kernel
theorem dX7_isOf_7 : decode cX7_isOf 7 = .ok (.irem, 1) := by decide +kernel
theorem dX7_isOf_8 : decode cX7_isOf 8 = .ok (.iaload, 1) := by decide +kernel
theorem dX7_isOf_9 : decode cX7_isOf 9 = .ok (.istore_n 3, 1) := by decide +kernel
theorem dX7_isOf_10 : decode cX7_isOf 10 = .ok (.iload_n 3, 1) := by decide +kernel
theorem dX7_isOf_11 : decode cX7_isOf 11 = .ok (.ifCond .lt 16, 3) := by decide +kernel
theorem dX7_isOf_14 : decode cX7_isOf 14 = .ok (.iload_n 1, 1) := by decide +kernel
theorem dX7_isOf_15 : decode cX7_isOf 15 = .ok (.iload_n 3, 1) := by decide +kernel
theorem dX7_isOf_16 : decode cX7_isOf 16 = .ok (.ishr, 1) := by decide +kernel
theorem dX7_isOf_17 : decode cX7_isOf 17 = .ok (.iconst 1, 1) := by decide +kernel
theorem dX7_isOf_18 : decode cX7_isOf 18 = .ok (.iand, 1) := by decide +kernel
theorem dX7_isOf_19 : decode cX7_isOf 19 = .ok (.iconst 1, 1) := by decide +kernel
theorem dX7_isOf_20 : decode cX7_isOf 20 = .ok (.if_icmp .ne 7, 3) := by decide +kernel
theorem dX7_isOf_23 : decode cX7_isOf 23 = .ok (.iconst 1, 1) := by decide +kernel
theorem dX7_isOf_24 : decode cX7_isOf 24 = .ok (.goto 4, 3) := by decide +kernel
theorem dX7_isOf_27 : decode cX7_isOf 27 = .ok (.iconst 0, 1) := by decide +kernel
theorem dX7_isOf_28 : decode cX7_isOf 28 = .ok (.ireturn, 1) := by decide +kernel
theorem dX7_shapeAt_0 : decode cX7_shapeAt 0 = .ok (.iload_n 0, 1) := by decide +kernel
theorem dX7_shapeAt_1 : decode cX7_shapeAt 1 = .ok (.bipush 7, 2) := by decide +kernel
theorem dX7_shapeAt_3 : decode cX7_shapeAt 3 = .ok (.imul, 1) := by decide +kernel
theorem dX7_shapeAt_4 : decode cX7_shapeAt 4 = .ok (.iload_n 1, 1) := by decide +kernel
theorem dX7_shapeAt_5 : decode cX7_shapeAt 5 = .ok (.iadd, 1) := by decide +kernel
theorem dX7_shapeAt_6 : decode cX7_shapeAt 6 = .ok (.iconst 2, 1) := by decide +kernel
theorem dX7_shapeAt_7 : decode cX7_shapeAt 7 = .ok (.imul, 1) := by decide +kernel
theorem dX7_shapeAt_8 : decode cX7_shapeAt 8 = .ok (.iload_n 2, 1) := by decide +kernel
theorem dX7_shapeAt_9 : decode cX7_shapeAt 9 = .ok (.iadd, 1) := by decide +kernel
theorem dX7_shapeAt_10 : decode cX7_shapeAt 10 = .ok (.ireturn, 1) := by decide +kernel
theorem dX7_covers_0 : decode cX7_covers 0 = .ok (.iconst 0, 1) := by decide +kernel
theorem dX7_covers_1 : decode cX7_covers 1 = .ok (.istore_n 1, 1) := by decide +kernel
theorem dX7_covers_2 : decode cX7_covers 2 = .ok (.iload_n 1, 1) := by decide +kernel
theorem dX7_covers_3 : decode cX7_covers 3 = .ok (.aload_n 0, 1) := by decide +kernel
theorem dX7_covers_4 : decode cX7_covers 4 = .ok (.getfield 225, 3) := by decide +kernel
theorem dX7_covers_7 : decode cX7_covers 7 = .ok (.if_icmp .ge 97, 3) := by decide +kernel
theorem dX7_covers_10 : decode cX7_covers 10 = .ok (.iconst 0, 1) := by decide +kernel
theorem dX7_covers_11 : decode cX7_covers 11 = .ok (.istore_n 2, 1) := by decide +kernel
theorem dX7_covers_12 : decode cX7_covers 12 = .ok (.iload_n 2, 1) := by decide +kernel
theorem dX7_covers_13 : decode cX7_covers 13 = .ok (.bipush 7, 2) := by decide +kernel
theorem dX7_covers_15 : decode cX7_covers 15 = .ok (.if_icmp .ge 83, 3) := by decide +kernel
theorem dX7_covers_18 : decode cX7_covers 18 = .ok (.iconst 0, 1) := by decide +kernel
theorem dX7_covers_19 : decode cX7_covers 19 = .ok (.istore_n 3, 1) := by decide +kernel
theorem dX7_covers_20 : decode cX7_covers 20 = .ok (.iload_n 3, 1) := by decide +kernel
theorem dX7_covers_21 : decode cX7_covers 21 = .ok (.iconst 2, 1) := by decide +kernel
theorem dX7_covers_22 : decode cX7_covers 22 = .ok (.if_icmp .ge 70, 3) := by decide +kernel
theorem dX7_covers_25 : decode cX7_covers 25 = .ok (.iload_n 3, 1) := by decide +kernel
theorem dX7_covers_26 : decode cX7_covers 26 = .ok (.iconst 1, 1) := by decide +kernel
theorem dX7_covers_27 : decode cX7_covers 27 = .ok (.if_icmp .ne 20, 3) := by decide +kernel
theorem dX7_covers_30 : decode cX7_covers 30 = .ok (.getstatic 120, 3) := by decide +kernel
theorem dX7_covers_33 : decode cX7_covers 33 = .ok (.iload_n 2, 1) := by decide +kernel
theorem dX7_covers_34 : decode cX7_covers 34 = .ok (.iaload, 1) := by decide +kernel
theorem dX7_covers_35 : decode cX7_covers 35 = .ok (.getstatic 123, 3) := by decide +kernel
theorem dX7_covers_38 : decode cX7_covers 38 = .ok (.iload_n 2, 1) := by decide +kernel
theorem dX7_covers_39 : decode cX7_covers 39 = .ok (.iaload, 1) := by decide +kernel
theorem dX7_covers_40 : decode cX7_covers 40 = .ok (.if_icmp .ne 7, 3) := by decide +kernel
theorem dX7_covers_43 : decode cX7_covers 43 = .ok (.iconst 0, 1) := by decide +kernel
theorem dX7_covers_44 : decode cX7_covers 44 = .ok (.goto 10, 3) := by decide +kernel
theorem dX7_covers_47 : decode cX7_covers 47 = .ok (.aload_n 0, 1) := by decide +kernel
theorem dX7_covers_48 : decode cX7_covers 48 = .ok (.iload_n 1, 1) := by decide +kernel
theorem dX7_covers_49 : decode cX7_covers 49 = .ok (.iload_n 2, 1) := by decide +kernel
theorem dX7_covers_50 : decode cX7_covers 50 = .ok (.iload_n 3, 1) := by decide +kernel
theorem dX7_covers_51 : decode cX7_covers 51 = .ok (.invokevirtual 234, 3) := by decide +kernel
theorem dX7_covers_54 : decode cX7_covers 54 = .ok (.istore 4, 2) := by decide +kernel
theorem dX7_covers_56 : decode cX7_covers 56 = .ok (.aload_n 0, 1) := by decide +kernel
theorem dX7_covers_57 : decode cX7_covers 57 = .ok (.getfield 76, 3) := by decide +kernel
theorem dX7_covers_60 : decode cX7_covers 60 = .ok (.iload_n 1, 1) := by decide +kernel
theorem dX7_covers_61 : decode cX7_covers 61 = .ok (.iload_n 2, 1) := by decide +kernel
theorem dX7_covers_62 : decode cX7_covers 62 = .ok (.iload_n 3, 1) := by decide +kernel
theorem dX7_covers_63 : decode cX7_covers 63 = .ok (.invokestatic 237, 3) := by decide +kernel
theorem dX7_covers_66 : decode cX7_covers 66 = .ok (.iload 4, 2) := by decide +kernel
theorem dX7_covers_68 : decode cX7_covers 68 = .ok (.iastore, 1) := by decide +kernel
theorem dX7_covers_69 : decode cX7_covers 69 = .ok (.aload_n 0, 1) := by decide +kernel
theorem dX7_covers_70 : decode cX7_covers 70 = .ok (.getfield 79, 3) := by decide +kernel
theorem dX7_covers_73 : decode cX7_covers 73 = .ok (.iload_n 1, 1) := by decide +kernel
theorem dX7_covers_74 : decode cX7_covers 74 = .ok (.iload_n 2, 1) := by decide +kernel
theorem dX7_covers_75 : decode cX7_covers 75 = .ok (.iload_n 3, 1) := by decide +kernel
theorem dX7_covers_76 : decode cX7_covers 76 = .ok (.invokestatic 237, 3) := by decide +kernel
theorem dX7_covers_79 : decode cX7_covers 79 = .ok (.aload_n 0, 1) := by decide +kernel
theorem dX7_covers_80 : decode cX7_covers 80 = .ok (.iload 4, 2) := by decide +kernel
theorem dX7_covers_82 : decode cX7_covers 82 = .ok (.invokevirtual 240, 3) := by decide +kernel
theorem dX7_covers_85 : decode cX7_covers 85 = .ok (.iastore, 1) := by decide +kernel
theorem dX7_covers_86 : decode cX7_covers 86 = .ok (.iinc 3 1, 3) := by decide +kernel
theorem dX7_covers_89 : decode cX7_covers 89 = .ok (.goto (-69), 3) := by decide +kernel
theorem dX7_covers_92 : decode cX7_covers 92 = .ok (.iinc 2 1, 3) := by decide +kernel
theorem dX7_covers_95 : decode cX7_covers 95 = .ok (.goto (-83), 3) := by decide +kernel
theorem dX7_covers_98 : decode cX7_covers 98 = .ok (.iinc 1 1, 3) := by decide +kernel
theorem dX7_covers_101 : decode cX7_covers 101 = .ok (.goto (-99), 3) := by decide +kernel
theorem dX7_covers_104 : decode cX7_covers 104 = .ok (.iconst 1, 1) := by decide +kernel
theorem dX7_covers_105 : decode cX7_covers 105 = .ok (.aload_n 0, 1) := by decide +kernel
theorem dX7_covers_106 : decode cX7_covers 106 = .ok (.getfield 225, 3) := by decide +kernel
theorem dX7_covers_109 : decode cX7_covers 109 = .ok (.ishl, 1) := by decide +kernel
theorem dX7_covers_110 : decode cX7_covers 110 = .ok (.iconst 1, 1) := by decide +kernel
theorem dX7_covers_111 : decode cX7_covers 111 = .ok (.isub, 1) := by decide +kernel
theorem dX7_covers_112 : decode cX7_covers 112 = .ok (.istore_n 1, 1) := by decide +kernel
theorem dX7_covers_113 : decode cX7_covers 113 = .ok (.iload_n 1, 1) := by decide +kernel
theorem dX7_covers_114 : decode cX7_covers 114 = .ok (.istore_n 2, 1) := by decide +kernel
theorem dX7_covers_115 : decode cX7_covers 115 = .ok (.iload_n 2, 1) := by decide +kernel
theorem dX7_covers_116 : decode cX7_covers 116 = .ok (.ifCond .lt 85, 3) := by decide +kernel
theorem dX7_covers_119 : decode cX7_covers 119 = .ok (.aload_n 0, 1) := by decide +kernel
theorem dX7_covers_120 : decode cX7_covers 120 = .ok (.getfield 67, 3) := by decide +kernel
theorem dX7_covers_123 : decode cX7_covers 123 = .ok (.iload_n 2, 1) := by decide +kernel
theorem dX7_covers_124 : decode cX7_covers 124 = .ok (.iconst 0, 1) := by decide +kernel
theorem dX7_covers_125 : decode cX7_covers 125 = .ok (.iastore, 1) := by decide +kernel
theorem dX7_covers_126 : decode cX7_covers 126 = .ok (.aload_n 0, 1) := by decide +kernel
theorem dX7_covers_127 : decode cX7_covers 127 = .ok (.getfield 70, 3) := by decide +kernel
theorem dX7_covers_130 : decode cX7_covers 130 = .ok (.iload_n 2, 1) := by decide +kernel
theorem dX7_covers_131 : decode cX7_covers 131 = .ok (.iconst 0, 1) := by decide +kernel
