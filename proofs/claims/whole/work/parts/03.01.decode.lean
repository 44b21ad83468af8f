theorem dX4_countPieces_9 : decode cX4_countPieces 9 = .ok (.istore_n 3, 1) := by decide +kernel
theorem dX4_countPieces_10 : decode cX4_countPieces 10 = .ok (.iconst 0, 1) := by decide +kernel
theorem dX4_countPieces_11 : decode cX4_countPieces 11 = .ok (.istore 4, 2) := by decide +kernel
theorem dX4_countPieces_13 : decode cX4_countPieces 13 = .ok (.iload 4, 2) := by decide +kernel
theorem dX4_countPieces_15 : decode cX4_countPieces 15 = .ok (.bipush 40, 2) := by decide +kernel
theorem dX4_countPieces_17 : decode cX4_countPieces 17 = .ok (.if_icmp .ge 34, 3) := by decide +kernel
theorem dX4_countPieces_20 : decode cX4_countPieces 20 = .ok (.lload_n 1, 1) := by decide +kernel
theorem dX4_countPieces_21 : decode cX4_countPieces 21 = .ok (.lconst 0, 1) := by decide +kernel
theorem dX4_countPieces_22 : decode cX4_countPieces 22 = .ok (.lcmp, 1) := by decide +kernel
theorem dX4_countPieces_23 : decode cX4_countPieces 23 = .ok (.ifCond .eq 28, 3) := by decide +kernel
theorem dX4_countPieces_26 : decode cX4_countPieces 26 = .ok (.lload_n 1, 1) := by decide +kernel
theorem dX4_countPieces_27 : decode cX4_countPieces 27 = .ok (.aload_n 0, 1) := by decide +kernel
theorem dX4_countPieces_28 : decode cX4_countPieces 28 = .ok (.lload_n 1, 1) := by decide +kernel
theorem dX4_countPieces_29 : decode cX4_countPieces 29 = .ok (.lload_n 1, 1) := by decide +kernel
theorem dX4_countPieces_30 : decode cX4_countPieces 30 = .ok (.lneg, 1) := by decide +kernel
theorem dX4_countPieces_31 : decode cX4_countPieces 31 = .ok (.land, 1) := by decide +kernel
theorem dX4_countPieces_32 : decode cX4_countPieces 32 = .ok (.lload_n 1, 1) := by decide +kernel
theorem dX4_countPieces_33 : decode cX4_countPieces 33 = .ok (.invokevirtual 38, 3) := by decide +kernel
theorem dX4_countPieces_36 : decode cX4_countPieces 36 = .ok (.ldc2_w 36, 3) := by decide +kernel
theorem dX4_countPieces_39 : decode cX4_countPieces 39 = .ok (.lxor, 1) := by decide +kernel
theorem dX4_countPieces_40 : decode cX4_countPieces 40 = .ok (.land, 1) := by decide +kernel
theorem dX4_countPieces_41 : decode cX4_countPieces 41 = .ok (.lstore_n 1, 1) := by decide +kernel
theorem dX4_countPieces_42 : decode cX4_countPieces 42 = .ok (.iinc 3 1, 3) := by decide +kernel
theorem dX4_countPieces_45 : decode cX4_countPieces 45 = .ok (.iinc 4 1, 3) := by decide +kernel
theorem dX4_countPieces_48 : decode cX4_countPieces 48 = .ok (.goto (-35), 3) := by decide +kernel
theorem dX4_countPieces_51 : decode cX4_countPieces 51 = .ok (.iload_n 3, 1) := by decide +kernel
theorem dX4_countPieces_52 : decode cX4_countPieces 52 = .ok (.ireturn, 1) := by decide +kernel
theorem dX4_countFloating_0 : decode cX4_countFloating 0 = .ok (.aload_n 0, 1) := by decide +kernel
theorem dX4_countFloating_1 : decode cX4_countFloating 1 = .ok (.getfield 22, 3) := by decide +kernel
theorem dX4_countFloating_4 : decode cX4_countFloating 4 = .ok (.invokevirtual 42, 3) := by decide +kernel
theorem dX4_countFloating_7 : decode cX4_countFloating 7 = .ok (.lstore_n 1, 1) := by decide +kernel
theorem dX4_countFloating_8 : decode cX4_countFloating 8 = .ok (.iconst 0, 1) := by decide +kernel
theorem dX4_countFloating_9 : decode cX4_countFloating 9 = .ok (.istore_n 3, 1) := by decide +kernel
theorem dX4_countFloating_10 : decode cX4_countFloating 10 = .ok (.iconst 0, 1) := by decide +kernel
theorem dX4_countFloating_11 : decode cX4_countFloating 11 = .ok (.istore 4, 2) := by decide +kernel
theorem dX4_countFloating_13 : decode cX4_countFloating 13 = .ok (.iload 4, 2) := by decide +kernel
theorem dX4_countFloating_15 : decode cX4_countFloating 15 = .ok (.bipush 40, 2) := by decide +kernel
theorem dX4_countFloating_17 : decode cX4_countFloating 17 = .ok (.if_icmp .ge 47, 3) := by decide +kernel
theorem dX4_countFloating_20 : decode cX4_countFloating 20 = .ok (.lload_n 1, 1) := by decide +kernel
theorem dX4_countFloating_21 : decode cX4_countFloating 21 = .ok (.lconst 0, 1) := by decide +kernel
theorem dX4_countFloating_22 : decode cX4_countFloating 22 = .ok (.lcmp, 1) := by decide +kernel
theorem dX4_countFloating_23 : decode cX4_countFloating 23 = .ok (.ifCond .eq 41, 3) := by decide +kernel
theorem dX4_countFloating_26 : decode cX4_countFloating 26 = .ok (.aload_n 0, 1) := by decide +kernel
theorem dX4_countFloating_27 : decode cX4_countFloating 27 = .ok (.lload_n 1, 1) := by decide +kernel
theorem dX4_countFloating_28 : decode cX4_countFloating 28 = .ok (.lload_n 1, 1) := by decide +kernel
theorem dX4_countFloating_29 : decode cX4_countFloating 29 = .ok (.lneg, 1) := by decide +kernel
theorem dX4_countFloating_30 : decode cX4_countFloating 30 = .ok (.land, 1) := by decide +kernel
theorem dX4_countFloating_31 : decode cX4_countFloating 31 = .ok (.lload_n 1, 1) := by decide +kernel
theorem dX4_countFloating_32 : decode cX4_countFloating 32 = .ok (.invokevirtual 38, 3) := by decide +kernel
theorem dX4_countFloating_35 : decode cX4_countFloating 35 = .ok (.lstore 5, 2) := by decide +kernel
theorem dX4_countFloating_37 : decode cX4_countFloating 37 = .ok (.lload_n 1, 1) := by decide +kernel
theorem dX4_countFloating_38 : decode cX4_countFloating 38 = .ok (.lload 5, 2) := by decide +kernel
theorem dX4_countFloating_40 : decode cX4_countFloating 40 = .ok (.ldc2_w 36, 3) := by decide +kernel
theorem dX4_countFloating_43 : decode cX4_countFloating 43 = .ok (.lxor, 1) := by decide +kernel
theorem dX4_countFloating_44 : decode cX4_countFloating 44 = .ok (.land, 1) := by decide +kernel
theorem dX4_countFloating_45 : decode cX4_countFloating 45 = .ok (.lstore_n 1, 1) := by decide +kernel
theorem dX4_countFloating_46 : decode cX4_countFloating 46 = .ok (.aload_n 0, 1) := by decide +kernel
theorem dX4_countFloating_47 : decode cX4_countFloating 47 = .ok (.lload 5, 2) := by decide +kernel
theorem dX4_countFloating_49 : decode cX4_countFloating 49 = .ok (.invokevirtual 46, 3) := by decide +kernel
theorem dX4_countFloating_52 : decode cX4_countFloating 52 = .ok (.ifCond .eq 6, 3) := by decide +kernel
theorem dX4_countFloating_55 : decode cX4_countFloating 55 = .ok (.iinc 3 1, 3) := by decide +kernel
theorem dX4_countFloating_58 : decode cX4_countFloating 58 = .ok (.iinc 4 1, 3) := by decide +kernel
theorem dX4_countFloating_61 : decode cX4_countFloating 61 = .ok (.goto (-48), 3) := by decide +kernel
theorem dX4_countFloating_64 : decode cX4_countFloating 64 = .ok (.iload_n 3, 1) := by decide +kernel
theorem dX4_countFloating_65 : decode cX4_countFloating 65 = .ok (.ireturn, 1) := by decide +kernel
theorem dX4_countKeys_0 : decode cX4_countKeys 0 = .ok (.iconst 0, 1) := by decide +kernel
theorem dX4_countKeys_1 : decode cX4_countKeys 1 = .ok (.istore_n 1, 1) := by decide +kernel
theorem dX4_countKeys_2 : decode cX4_countKeys 2 = .ok (.iconst 0, 1) := by decide +kernel
theorem dX4_countKeys_3 : decode cX4_countKeys 3 = .ok (.istore_n 2, 1) := by decide +kernel
theorem dX4_countKeys_4 : decode cX4_countKeys 4 = .ok (.iload_n 2, 1) := by decide +kernel
theorem dX4_countKeys_5 : decode cX4_countKeys 5 = .ok (.aload_n 0, 1) := by decide +kernel
theorem dX4_countKeys_6 : decode cX4_countKeys 6 = .ok (.getfield 22, 3) := by decide +kernel
theorem dX4_countKeys_9 : decode cX4_countKeys 9 = .ok (.invokevirtual 50, 3) := by decide +kernel
theorem dX4_countKeys_12 : decode cX4_countKeys 12 = .ok (.if_icmp .ge 43, 3) := by decide +kernel
theorem dX4_countKeys_15 : decode cX4_countKeys 15 = .ok (.aload_n 0, 1) := by decide +kernel
theorem dX4_countKeys_16 : decode cX4_countKeys 16 = .ok (.getfield 22, 3) := by decide +kernel
theorem dX4_countKeys_19 : decode cX4_countKeys 19 = .ok (.iload_n 2, 1) := by decide +kernel
theorem dX4_countKeys_20 : decode cX4_countKeys 20 = .ok (.invokevirtual 54, 3) := by decide +kernel
theorem dX4_countKeys_23 : decode cX4_countKeys 23 = .ok (.ifCond .eq 26, 3) := by decide +kernel
theorem dX4_countKeys_26 : decode cX4_countKeys 26 = .ok (.aload_n 0, 1) := by decide +kernel
theorem dX4_countKeys_27 : decode cX4_countKeys 27 = .ok (.iload_n 2, 1) := by decide +kernel
theorem dX4_countKeys_28 : decode cX4_countKeys 28 = .ok (.aload_n 0, 1) := by decide +kernel
theorem dX4_countKeys_29 : decode cX4_countKeys 29 = .ok (.iload_n 2, 1) := by decide +kernel
theorem dX4_countKeys_30 : decode cX4_countKeys 30 = .ok (.aload_n 0, 1) := by decide +kernel
theorem dX4_countKeys_31 : decode cX4_countKeys 31 = .ok (.getfield 22, 3) := by decide +kernel
theorem dX4_countKeys_34 : decode cX4_countKeys 34 = .ok (.invokevirtual 42, 3) := by decide +kernel
theorem dX4_countKeys_37 : decode cX4_countKeys 37 = .ok (.invokevirtual 58, 3) := by decide +kernel
theorem dX4_countKeys_40 : decode cX4_countKeys 40 = .ok (.invokevirtual 62, 3) := by decide +kernel
theorem dX4_countKeys_43 : decode cX4_countKeys 43 = .ok (.ifCond .eq 6, 3) := by decide +kernel
theorem dX4_countKeys_46 : decode cX4_countKeys 46 = .ok (.iinc 1 1, 3) := by decide +kernel
theorem dX4_countKeys_49 : decode cX4_countKeys 49 = .ok (.iinc 2 1, 3) := by decide +kernel
theorem dX4_countKeys_52 : decode cX4_countKeys 52 = .ok (.goto (-48), 3) := by decide +kernel
theorem dX4_countKeys_55 : decode cX4_countKeys 55 = .ok (.iload_n 1, 1) := by decide +kernel
theorem dX4_countKeys_56 : decode cX4_countKeys 56 = .ok (.ireturn, 1) := by decide +kernel
theorem dX4_pieceNumbered_0 : decode cX4_pieceNumbered 0 = .ok (.iload_n 1, 1) := by decide +kernel
theorem dX4_pieceNumbered_1 : decode cX4_pieceNumbered 1 = .ok (.ifCond .lt 9, 3) := by decide +kernel
theorem dX4_pieceNumbered_4 : decode cX4_pieceNumbered 4 = .ok (.iload_n 1, 1) := by decide +kernel
theorem dX4_pieceNumbered_5 : decode cX4_pieceNumbered 5 = .ok (.bipush 40, 2) := by decide +kernel
theorem dX4_pieceNumbered_7 : decode cX4_pieceNumbered 7 = .ok (.if_icmp .lt 5, 3) := by decide +kernel
theorem dX4_pieceNumbered_10 : decode cX4_pieceNumbered 10 = .ok (.lconst 0, 1) := by decide +kernel
theorem dX4_pieceNumbered_11 : decode cX4_pieceNumbered 11 = .ok (.lreturn, 1) := by decide +kernel
theorem dX4_pieceNumbered_12 : decode cX4_pieceNumbered 12 = .ok (.aload_n 0, 1) := by decide +kernel
theorem dX4_pieceNumbered_13 : decode cX4_pieceNumbered 13 = .ok (.getfield 22, 3) := by decide +kernel
theorem dX4_pieceNumbered_16 : decode cX4_pieceNumbered 16 = .ok (.invokevirtual 42, 3) := by decide +kernel
theorem dX4_pieceNumbered_19 : decode cX4_pieceNumbered 19 = .ok (.lstore_n 2, 1) := by decide +kernel
theorem dX4_pieceNumbered_20 : decode cX4_pieceNumbered 20 = .ok (.iconst 0, 1) := by decide +kernel
theorem dX4_pieceNumbered_21 : decode cX4_pieceNumbered 21 = .ok (.istore 4, 2) := by decide +kernel
theorem dX4_pieceNumbered_23 : decode cX4_pieceNumbered 23 = .ok (.iload 4, 2) := by decide +kernel
theorem dX4_pieceNumbered_25 : decode cX4_pieceNumbered 25 = .ok (.iload_n 1, 1) := by decide +kernel
theorem dX4_pieceNumbered_26 : decode cX4_pieceNumbered 26 = .ok (.if_icmp .ge 31, 3) := by decide +kernel
theorem dX4_pieceNumbered_29 : decode cX4_pieceNumbered 29 = .ok (.lload_n 2, 1) := by decide +kernel
theorem dX4_pieceNumbered_30 : decode cX4_pieceNumbered 30 = .ok (.lconst 0, 1) := by decide +kernel
theorem dX4_pieceNumbered_31 : decode cX4_pieceNumbered 31 = .ok (.lcmp, 1) := by decide +kernel
theorem dX4_pieceNumbered_32 : decode cX4_pieceNumbered 32 = .ok (.ifCond .eq 25, 3) := by decide +kernel
theorem dX4_pieceNumbered_35 : decode cX4_pieceNumbered 35 = .ok (.lload_n 2, 1) := by decide +kernel
theorem dX4_pieceNumbered_36 : decode cX4_pieceNumbered 36 = .ok (.aload_n 0, 1) := by decide +kernel
theorem dX4_pieceNumbered_37 : decode cX4_pieceNumbered 37 = .ok (.lload_n 2, 1) := by decide +kernel
theorem dX4_pieceNumbered_38 : decode cX4_pieceNumbered 38 = .ok (.lload_n 2, 1) := by decide +kernel
theorem dX4_pieceNumbered_39 : decode cX4_pieceNumbered 39 = .ok (.lneg, 1) := by decide +kernel
theorem dX4_pieceNumbered_40 : decode cX4_pieceNumbered 40 = .ok (.land, 1) := by decide +kernel
theorem dX4_pieceNumbered_41 : decode cX4_pieceNumbered 41 = .ok (.lload_n 2, 1) := by decide +kernel
theorem dX4_pieceNumbered_42 : decode cX4_pieceNumbered 42 = .ok (.invokevirtual 38, 3) := by decide +kernel
theorem dX4_pieceNumbered_45 : decode cX4_pieceNumbered 45 = .ok (.ldc2_w 36, 3) := by decide +kernel
theorem dX4_pieceNumbered_48 : decode cX4_pieceNumbered 48 = .ok (.lxor, 1) := by decide +kernel
theorem dX4_pieceNumbered_49 : decode cX4_pieceNumbered 49 = .ok (.land, 1) := by decide +kernel
theorem dX4_pieceNumbered_50 : decode cX4_pieceNumbered 50 = .ok (.lstore_n 2, 1) := by decide +kernel
theorem dX4_pieceNumbered_51 : decode cX4_pieceNumbered 51 = .ok (.iinc 4 1, 3) := by decide +kernel
theorem dX4_pieceNumbered_54 : decode cX4_pieceNumbered 54 = .ok (.goto (-31), 3) := by decide +kernel
theorem dX4_pieceNumbered_57 : decode cX4_pieceNumbered 57 = .ok (.aload_n 0, 1) := by decide +kernel
theorem dX4_pieceNumbered_58 : decode cX4_pieceNumbered 58 = .ok (.lload_n 2, 1) := by decide +kernel
theorem dX4_pieceNumbered_59 : decode cX4_pieceNumbered 59 = .ok (.lload_n 2, 1) := by decide +kernel
theorem dX4_pieceNumbered_60 : decode cX4_pieceNumbered 60 = .ok (.lneg, 1) := by decide +kernel
theorem dX4_pieceNumbered_61 : decode cX4_pieceNumbered 61 = .ok (.land, 1) := by decide +kernel
theorem dX4_pieceNumbered_62 : decode cX4_pieceNumbered 62 = .ok (.lload_n 2, 1) := by decide +kernel
theorem dX4_pieceNumbered_63 : decode cX4_pieceNumbered 63 = .ok (.invokevirtual 38, 3) := by decide +kernel
theorem dX4_pieceNumbered_66 : decode cX4_pieceNumbered 66 = .ok (.lreturn, 1) := by decide +kernel
theorem dX4_numberOfPiece_0 : decode cX4_numberOfPiece 0 = .ok (.aload_n 0, 1) := by decide +kernel
theorem dX4_numberOfPiece_1 : decode cX4_numberOfPiece 1 = .ok (.getfield 22, 3) := by decide +kernel
theorem dX4_numberOfPiece_4 : decode cX4_numberOfPiece 4 = .ok (.invokevirtual 42, 3) := by decide +kernel
theorem dX4_numberOfPiece_7 : decode cX4_numberOfPiece 7 = .ok (.lstore_n 2, 1) := by decide +kernel
theorem dX4_numberOfPiece_8 : decode cX4_numberOfPiece 8 = .ok (.iconst 0, 1) := by decide +kernel
theorem dX4_numberOfPiece_9 : decode cX4_numberOfPiece 9 = .ok (.istore 4, 2) := by decide +kernel
theorem dX4_numberOfPiece_11 : decode cX4_numberOfPiece 11 = .ok (.iconst 0, 1) := by decide +kernel
theorem dX4_numberOfPiece_12 : decode cX4_numberOfPiece 12 = .ok (.istore 5, 2) := by decide +kernel
theorem dX4_numberOfPiece_14 : decode cX4_numberOfPiece 14 = .ok (.iload 5, 2) := by decide +kernel
theorem dX4_numberOfPiece_16 : decode cX4_numberOfPiece 16 = .ok (.bipush 40, 2) := by decide +kernel
theorem dX4_numberOfPiece_18 : decode cX4_numberOfPiece 18 = .ok (.if_icmp .ge 52, 3) := by decide +kernel
theorem dX4_numberOfPiece_21 : decode cX4_numberOfPiece 21 = .ok (.lload_n 2, 1) := by decide +kernel
theorem dX4_numberOfPiece_22 : decode cX4_numberOfPiece 22 = .ok (.lconst 0, 1) := by decide +kernel
theorem dX4_numberOfPiece_23 : decode cX4_numberOfPiece 23 = .ok (.lcmp, 1) := by decide +kernel
theorem dX4_numberOfPiece_24 : decode cX4_numberOfPiece 24 = .ok (.ifCond .eq 46, 3) := by decide +kernel
theorem dX4_numberOfPiece_27 : decode cX4_numberOfPiece 27 = .ok (.aload_n 0, 1) := by decide +kernel
theorem dX4_numberOfPiece_28 : decode cX4_numberOfPiece 28 = .ok (.lload_n 2, 1) := by decide +kernel
theorem dX4_numberOfPiece_29 : decode cX4_numberOfPiece 29 = .ok (.lload_n 2, 1) := by decide +kernel
theorem dX4_numberOfPiece_30 : decode cX4_numberOfPiece 30 = .ok (.lneg, 1) := by decide +kernel
theorem dX4_numberOfPiece_31 : decode cX4_numberOfPiece 31 = .ok (.land, 1) := by decide +kernel
theorem dX4_numberOfPiece_32 : decode cX4_numberOfPiece 32 = .ok (.lload_n 2, 1) := by decide +kernel
theorem dX4_numberOfPiece_33 : decode cX4_numberOfPiece 33 = .ok (.invokevirtual 38, 3) := by decide +kernel
theorem dX4_numberOfPiece_36 : decode cX4_numberOfPiece 36 = .ok (.lstore 6, 2) := by decide +kernel
theorem dX4_numberOfPiece_38 : decode cX4_numberOfPiece 38 = .ok (.lload 6, 2) := by decide +kernel
theorem dX4_numberOfPiece_40 : decode cX4_numberOfPiece 40 = .ok (.iload_n 1, 1) := by decide +kernel
theorem dX4_numberOfPiece_41 : decode cX4_numberOfPiece 41 = .ok (.lushr, 1) := by decide +kernel
theorem dX4_numberOfPiece_42 : decode cX4_numberOfPiece 42 = .ok (.lconst 1, 1) := by decide +kernel
theorem dX4_numberOfPiece_43 : decode cX4_numberOfPiece 43 = .ok (.land, 1) := by decide +kernel
theorem dX4_numberOfPiece_44 : decode cX4_numberOfPiece 44 = .ok (.lconst 1, 1) := by decide +kernel
theorem dX4_numberOfPiece_45 : decode cX4_numberOfPiece 45 = .ok (.lcmp, 1) := by decide +kernel
theorem dX4_numberOfPiece_46 : decode cX4_numberOfPiece 46 = .ok (.ifCond .ne 6, 3) := by decide +kernel
theorem dX4_numberOfPiece_49 : decode cX4_numberOfPiece 49 = .ok (.iload 4, 2) := by decide +kernel
theorem dX4_numberOfPiece_51 : decode cX4_numberOfPiece 51 = .ok (.ireturn, 1) := by decide +kernel
theorem dX4_numberOfPiece_52 : decode cX4_numberOfPiece 52 = .ok (.lload_n 2, 1) := by decide +kernel
theorem dX4_numberOfPiece_53 : decode cX4_numberOfPiece 53 = .ok (.lload 6, 2) := by decide +kernel
theorem dX4_numberOfPiece_55 : decode cX4_numberOfPiece 55 = .ok (.ldc2_w 36, 3) := by decide +kernel
theorem dX4_numberOfPiece_58 : decode cX4_numberOfPiece 58 = .ok (.lxor, 1) := by decide +kernel
theorem dX4_numberOfPiece_59 : decode cX4_numberOfPiece 59 = .ok (.land, 1) := by decide +kernel
theorem dX4_numberOfPiece_60 : decode cX4_numberOfPiece 60 = .ok (.lstore_n 2, 1) := by decide +kernel
theorem dX4_numberOfPiece_61 : decode cX4_numberOfPiece 61 = .ok (.iinc 4 1, 3) := by decide +kernel
theorem dX4_numberOfPiece_64 : decode cX4_numberOfPiece 64 = .ok (.iinc 5 1, 3) := by decide +kernel
theorem dX4_numberOfPiece_67 : decode cX4_numberOfPiece 67 = .ok (.goto (-53), 3) := by decide +kernel
theorem dX4_numberOfPiece_70 : decode cX4_numberOfPiece 70 = .ok (.iload 4, 2) := by decide +kernel
theorem dX4_numberOfPiece_72 : decode cX4_numberOfPiece 72 = .ok (.ireturn, 1) := by decide +kernel
theorem dX4_weight_0 : decode cX4_weight 0 = .ok (.iconst 0, 1) := by decide +kernel
theorem dX4_weight_1 : decode cX4_weight 1 = .ok (.istore_n 3, 1) := by decide +kernel
theorem dX4_weight_2 : decode cX4_weight 2 = .ok (.lload_n 1, 1) := by decide +kernel
theorem dX4_weight_3 : decode cX4_weight 3 = .ok (.lstore 4, 2) := by decide +kernel
theorem dX4_weight_5 : decode cX4_weight 5 = .ok (.iconst 0, 1) := by decide +kernel
theorem dX4_weight_6 : decode cX4_weight 6 = .ok (.istore 6, 2) := by decide +kernel
theorem dX4_weight_8 : decode cX4_weight 8 = .ok (.iload 6, 2) := by decide +kernel
theorem dX4_weight_10 : decode cX4_weight 10 = .ok (.bipush 40, 2) := by decide +kernel
theorem dX4_weight_12 : decode cX4_weight 12 = .ok (.if_icmp .ge 40, 3) := by decide +kernel
theorem dX4_weight_15 : decode cX4_weight 15 = .ok (.lload 4, 2) := by decide +kernel
theorem dX4_weight_17 : decode cX4_weight 17 = .ok (.lconst 0, 1) := by decide +kernel
theorem dX4_weight_18 : decode cX4_weight 18 = .ok (.lcmp, 1) := by decide +kernel
theorem dX4_weight_19 : decode cX4_weight 19 = .ok (.ifCond .eq 33, 3) := by decide +kernel
theorem dX4_weight_22 : decode cX4_weight 22 = .ok (.iload_n 3, 1) := by decide +kernel
theorem dX4_weight_23 : decode cX4_weight 23 = .ok (.aload_n 0, 1) := by decide +kernel
theorem dX4_weight_24 : decode cX4_weight 24 = .ok (.getfield 22, 3) := by decide +kernel
theorem dX4_weight_27 : decode cX4_weight 27 = .ok (.lload 4, 2) := by decide +kernel
theorem dX4_weight_29 : decode cX4_weight 29 = .ok (.invokestatic 26, 3) := by decide +kernel
theorem dX4_weight_32 : decode cX4_weight 32 = .ok (.invokevirtual 66, 3) := by decide +kernel
theorem dX4_weight_35 : decode cX4_weight 35 = .ok (.iadd, 1) := by decide +kernel
theorem dX4_weight_36 : decode cX4_weight 36 = .ok (.istore_n 3, 1) := by decide +kernel
theorem dX4_weight_37 : decode cX4_weight 37 = .ok (.lload 4, 2) := by decide +kernel
theorem dX4_weight_39 : decode cX4_weight 39 = .ok (.lload 4, 2) := by decide +kernel
theorem dX4_weight_41 : decode cX4_weight 41 = .ok (.lconst 1, 1) := by decide +kernel
theorem dX4_weight_42 : decode cX4_weight 42 = .ok (.lsub, 1) := by decide +kernel
theorem dX4_weight_43 : decode cX4_weight 43 = .ok (.land, 1) := by decide +kernel
theorem dX4_weight_44 : decode cX4_weight 44 = .ok (.lstore 4, 2) := by decide +kernel
theorem dX4_weight_46 : decode cX4_weight 46 = .ok (.iinc 6 1, 3) := by decide +kernel
theorem dX4_weight_49 : decode cX4_weight 49 = .ok (.goto (-41), 3) := by decide +kernel
theorem dX4_weight_52 : decode cX4_weight 52 = .ok (.iload_n 3, 1) := by decide +kernel
theorem dX4_weight_53 : decode cX4_weight 53 = .ok (.ireturn, 1) := by decide +kernel
theorem dX4_floats_0 : decode cX4_floats 0 = .ok (.lload_n 1, 1) := by decide +kernel
theorem dX4_floats_1 : decode cX4_floats 1 = .ok (.aload_n 0, 1) := by decide +kernel
theorem dX4_floats_2 : decode cX4_floats 2 = .ok (.getfield 22, 3) := by decide +kernel
theorem dX4_floats_5 : decode cX4_floats 5 = .ok (.invokevirtual 70, 3) := by decide +kernel
theorem dX4_floats_8 : decode cX4_floats 8 = .ok (.land, 1) := by decide +kernel
theorem dX4_floats_9 : decode cX4_floats 9 = .ok (.lconst 0, 1) := by decide +kernel
theorem dX4_floats_10 : decode cX4_floats 10 = .ok (.lcmp, 1) := by decide +kernel
theorem dX4_floats_11 : decode cX4_floats 11 = .ok (.ifCond .ne 7, 3) := by decide +kernel
theorem dX4_floats_14 : decode cX4_floats 14 = .ok (.iconst 1, 1) := by decide +kernel
theorem dX4_floats_15 : decode cX4_floats 15 = .ok (.goto 4, 3) := by decide +kernel
theorem dX4_floats_18 : decode cX4_floats 18 = .ok (.iconst 0, 1) := by decide +kernel
theorem dX4_floats_19 : decode cX4_floats 19 = .ok (.ireturn, 1) := by decide +kernel
theorem dX4_stands_0 : decode cX4_stands 0 = .ok (.aload_n 0, 1) := by decide +kernel
theorem dX4_stands_1 : decode cX4_stands 1 = .ok (.lload_n 1, 1) := by decide +kernel
theorem dX4_stands_2 : decode cX4_stands 2 = .ok (.invokevirtual 46, 3) := by decide +kernel
theorem dX4_stands_5 : decode cX4_stands 5 = .ok (.ifCond .eq 5, 3) := by decide +kernel
theorem dX4_stands_8 : decode cX4_stands 8 = .ok (.iconst 0, 1) := by decide +kernel
theorem dX4_stands_9 : decode cX4_stands 9 = .ok (.ireturn, 1) := by decide +kernel
theorem dX4_stands_10 : decode cX4_stands 10 = .ok (.iconst 2, 1) := by decide +kernel
theorem dX4_stands_11 : decode cX4_stands 11 = .ok (.aload_n 0, 1) := by decide +kernel
theorem dX4_stands_12 : decode cX4_stands 12 = .ok (.lload_n 1, 1) := by decide +kernel
theorem dX4_stands_13 : decode cX4_stands 13 = .ok (.invokevirtual 73, 3) := by decide +kernel
theorem dX4_stands_16 : decode cX4_stands 16 = .ok (.imul, 1) := by decide +kernel
theorem dX4_stands_17 : decode cX4_stands 17 = .ok (.istore_n 3, 1) := by decide +kernel
theorem dX4_stands_18 : decode cX4_stands 18 = .ok (.iconst 0, 1) := by decide +kernel
theorem dX4_stands_19 : decode cX4_stands 19 = .ok (.istore 4, 2) := by decide +kernel
theorem dX4_stands_21 : decode cX4_stands 21 = .ok (.iconst 0, 1) := by decide +kernel
theorem dX4_stands_22 : decode cX4_stands 22 = .ok (.istore 5, 2) := by decide +kernel
theorem dX4_stands_24 : decode cX4_stands 24 = .ok (.aload_n 0, 1) := by decide +kernel
theorem dX4_stands_25 : decode cX4_stands 25 = .ok (.invokevirtual 76, 3) := by decide +kernel
theorem dX4_stands_28 : decode cX4_stands 28 = .ok (.iconst 0, 1) := by decide +kernel
theorem dX4_stands_29 : decode cX4_stands 29 = .ok (.istore 6, 2) := by decide +kernel
theorem dX4_stands_31 : decode cX4_stands 31 = .ok (.iload 6, 2) := by decide +kernel
theorem dX4_stands_33 : decode cX4_stands 33 = .ok (.aload_n 0, 1) := by decide +kernel
theorem dX4_stands_34 : decode cX4_stands 34 = .ok (.getfield 22, 3) := by decide +kernel
theorem dX4_stands_37 : decode cX4_stands 37 = .ok (.invokevirtual 50, 3) := by decide +kernel
theorem dX4_stands_40 : decode cX4_stands 40 = .ok (.if_icmp .ge 174, 3) := by decide +kernel
theorem dX4_stands_43 : decode cX4_stands 43 = .ok (.lload_n 1, 1) := by decide +kernel
theorem dX4_stands_44 : decode cX4_stands 44 = .ok (.iload 6, 2) := by decide +kernel
theorem dX4_stands_46 : decode cX4_stands 46 = .ok (.lushr, 1) := by decide +kernel
theorem dX4_stands_47 : decode cX4_stands 47 = .ok (.lconst 1, 1) := by decide +kernel
theorem dX4_stands_48 : decode cX4_stands 48 = .ok (.land, 1) := by decide +kernel
theorem dX4_stands_49 : decode cX4_stands 49 = .ok (.lconst 1, 1) := by decide +kernel
theorem dX4_stands_50 : decode cX4_stands 50 = .ok (.lcmp, 1) := by decide +kernel
theorem dX4_stands_51 : decode cX4_stands 51 = .ok (.ifCond .ne 157, 3) := by decide +kernel
theorem dX4_stands_54 : decode cX4_stands 54 = .ok (.aload_n 0, 1) := by decide +kernel
theorem dX4_stands_55 : decode cX4_stands 55 = .ok (.getfield 22, 3) := by decide +kernel
theorem dX4_stands_58 : decode cX4_stands 58 = .ok (.iload 6, 2) := by decide +kernel
theorem dX4_stands_60 : decode cX4_stands 60 = .ok (.invokevirtual 66, 3) := by decide +kernel
theorem dX4_stands_63 : decode cX4_stands 63 = .ok (.istore 7, 2) := by decide +kernel
theorem dX4_stands_65 : decode cX4_stands 65 = .ok (.aload_n 0, 1) := by decide +kernel
theorem dX4_stands_66 : decode cX4_stands 66 = .ok (.getfield 22, 3) := by decide +kernel
theorem dX4_stands_69 : decode cX4_stands 69 = .ok (.iload 6, 2) := by decide +kernel
theorem dX4_stands_71 : decode cX4_stands 71 = .ok (.iconst 2, 1) := by decide +kernel
theorem dX4_stands_72 : decode cX4_stands 72 = .ok (.invokevirtual 79, 3) := by decide +kernel
theorem dX4_stands_75 : decode cX4_stands 75 = .ok (.istore 8, 2) := by decide +kernel
theorem dX4_stands_77 : decode cX4_stands 77 = .ok (.aload_n 0, 1) := by decide +kernel
theorem dX4_stands_78 : decode cX4_stands 78 = .ok (.getfield 22, 3) := by decide +kernel
theorem dX4_stands_81 : decode cX4_stands 81 = .ok (.iload 6, 2) := by decide +kernel
theorem dX4_stands_83 : decode cX4_stands 83 = .ok (.iconst 3, 1) := by decide +kernel
theorem dX4_stands_84 : decode cX4_stands 84 = .ok (.invokevirtual 79, 3) := by decide +kernel
theorem dX4_stands_87 : decode cX4_stands 87 = .ok (.istore 9, 2) := by decide +kernel
theorem dX4_stands_89 : decode cX4_stands 89 = .ok (.iload 8, 2) := by decide +kernel
theorem dX4_stands_91 : decode cX4_stands 91 = .ok (.aload_n 0, 1) := by decide +kernel
theorem dX4_stands_92 : decode cX4_stands 92 = .ok (.getfield 22, 3) := by decide +kernel
theorem dX4_stands_95 : decode cX4_stands 95 = .ok (.iload 6, 2) := by decide +kernel
theorem dX4_stands_97 : decode cX4_stands 97 = .ok (.iconst 0, 1) := by decide +kernel
theorem dX4_stands_98 : decode cX4_stands 98 = .ok (.invokevirtual 79, 3) := by decide +kernel
theorem dX4_stands_101 : decode cX4_stands 101 = .ok (.aload_n 0, 1) := by decide +kernel
theorem dX4_stands_102 : decode cX4_stands 102 = .ok (.getfield 22, 3) := by decide +kernel
theorem dX4_stands_105 : decode cX4_stands 105 = .ok (.iload 6, 2) := by decide +kernel
theorem dX4_stands_107 : decode cX4_stands 107 = .ok (.iconst 1, 1) := by decide +kernel
theorem dX4_stands_108 : decode cX4_stands 108 = .ok (.invokevirtual 79, 3) := by decide +kernel
theorem dX4_stands_111 : decode cX4_stands 111 = .ok (.invokestatic 83, 3) := by decide +kernel
theorem dX4_stands_114 : decode cX4_stands 114 = .ok (.iadd, 1) := by decide +kernel
theorem dX4_stands_115 : decode cX4_stands 115 = .ok (.istore 10, 2) := by decide +kernel
theorem dX4_stands_117 : decode cX4_stands 117 = .ok (.iload 9, 2) := by decide +kernel
theorem dX4_stands_119 : decode cX4_stands 119 = .ok (.aload_n 0, 1) := by decide +kernel
theorem dX4_stands_120 : decode cX4_stands 120 = .ok (.getfield 22, 3) := by decide +kernel
theorem dX4_stands_123 : decode cX4_stands 123 = .ok (.iload 6, 2) := by decide +kernel
theorem dX4_stands_125 : decode cX4_stands 125 = .ok (.iconst 0, 1) := by decide +kernel
theorem dX4_stands_126 : decode cX4_stands 126 = .ok (.invokevirtual 79, 3) := by decide +kernel
theorem dX4_stands_129 : decode cX4_stands 129 = .ok (.aload_n 0, 1) := by decide +kernel
theorem dX4_stands_130 : decode cX4_stands 130 = .ok (.getfield 22, 3) := by decide +kernel
theorem dX4_stands_133 : decode cX4_stands 133 = .ok (.iload 6, 2) := by decide +kernel
theorem dX4_stands_135 : decode cX4_stands 135 = .ok (.iconst 1, 1) := by decide +kernel
theorem dX4_stands_136 : decode cX4_stands 136 = .ok (.invokevirtual 79, 3) := by decide +kernel
theorem dX4_stands_139 : decode cX4_stands 139 = .ok (.invokestatic 86, 3) := by decide +kernel
theorem dX4_stands_142 : decode cX4_stands 142 = .ok (.iadd, 1) := by decide +kernel
theorem dX4_stands_143 : decode cX4_stands 143 = .ok (.istore 11, 2) := by decide +kernel
theorem dX4_stands_145 : decode cX4_stands 145 = .ok (.iload 4, 2) := by decide +kernel
theorem dX4_stands_147 : decode cX4_stands 147 = .ok (.iload 7, 2) := by decide +kernel
theorem dX4_stands_149 : decode cX4_stands 149 = .ok (.iload 8, 2) := by decide +kernel
theorem dX4_stands_151 : decode cX4_stands 151 = .ok (.iload 10, 2) := by decide +kernel
theorem dX4_stands_153 : decode cX4_stands 153 = .ok (.iadd, 1) := by decide +kernel
theorem dX4_stands_154 : decode cX4_stands 154 = .ok (.imul, 1) := by decide +kernel
theorem dX4_stands_155 : decode cX4_stands 155 = .ok (.iadd, 1) := by decide +kernel
theorem dX4_stands_156 : decode cX4_stands 156 = .ok (.istore 4, 2) := by decide +kernel
theorem dX4_stands_158 : decode cX4_stands 158 = .ok (.iload 5, 2) := by decide +kernel
theorem dX4_stands_160 : decode cX4_stands 160 = .ok (.iload 7, 2) := by decide +kernel
theorem dX4_stands_162 : decode cX4_stands 162 = .ok (.iload 9, 2) := by decide +kernel
theorem dX4_stands_164 : decode cX4_stands 164 = .ok (.iload 11, 2) := by decide +kernel
theorem dX4_stands_166 : decode cX4_stands 166 = .ok (.iadd, 1) := by decide +kernel
theorem dX4_stands_167 : decode cX4_stands 167 = .ok (.imul, 1) := by decide +kernel
theorem dX4_stands_168 : decode cX4_stands 168 = .ok (.iadd, 1) := by decide +kernel
theorem dX4_stands_169 : decode cX4_stands 169 = .ok (.istore 5, 2) := by decide +kernel
theorem dX4_stands_171 : decode cX4_stands 171 = .ok (.aload_n 0, 1) := by decide +kernel
theorem dX4_stands_172 : decode cX4_stands 172 = .ok (.getfield 22, 3) := by decide +kernel
theorem dX4_stands_175 : decode cX4_stands 175 = .ok (.invokevirtual 70, 3) := by decide +kernel
theorem dX4_stands_178 : decode cX4_stands 178 = .ok (.iload 6, 2) := by decide +kernel
theorem dX4_stands_180 : decode cX4_stands 180 = .ok (.lushr, 1) := by decide +kernel
theorem dX4_stands_181 : decode cX4_stands 181 = .ok (.lconst 1, 1) := by decide +kernel
theorem dX4_stands_182 : decode cX4_stands 182 = .ok (.land, 1) := by decide +kernel
theorem dX4_stands_183 : decode cX4_stands 183 = .ok (.lconst 1, 1) := by decide +kernel
theorem dX4_stands_184 : decode cX4_stands 184 = .ok (.lcmp, 1) := by decide +kernel
theorem dX4_stands_185 : decode cX4_stands 185 = .ok (.ifCond .ne 23, 3) := by decide +kernel
theorem dX4_stands_188 : decode cX4_stands 188 = .ok (.aload_n 0, 1) := by decide +kernel
theorem dX4_stands_189 : decode cX4_stands 189 = .ok (.iload 9, 2) := by decide +kernel
theorem dX4_stands_191 : decode cX4_stands 191 = .ok (.iload 8, 2) := by decide +kernel
theorem dX4_stands_193 : decode cX4_stands 193 = .ok (.iload 10, 2) := by decide +kernel
theorem dX4_stands_195 : decode cX4_stands 195 = .ok (.invokevirtual 89, 3) := by decide +kernel
theorem dX4_stands_198 : decode cX4_stands 198 = .ok (.aload_n 0, 1) := by decide +kernel
theorem dX4_stands_199 : decode cX4_stands 199 = .ok (.iload 11, 2) := by decide +kernel
theorem dX4_stands_201 : decode cX4_stands 201 = .ok (.iload 8, 2) := by decide +kernel
theorem dX4_stands_203 : decode cX4_stands 203 = .ok (.iload 10, 2) := by decide +kernel
theorem dX4_stands_205 : decode cX4_stands 205 = .ok (.invokevirtual 89, 3) := by decide +kernel
theorem dX4_stands_208 : decode cX4_stands 208 = .ok (.iinc 6 1, 3) := by decide +kernel
theorem dX4_stands_211 : decode cX4_stands 211 = .ok (.goto (-180), 3) := by decide +kernel
theorem dX4_stands_214 : decode cX4_stands 214 = .ok (.aload_n 0, 1) := by decide +kernel
theorem dX4_stands_215 : decode cX4_stands 215 = .ok (.iload 4, 2) := by decide +kernel
theorem dX4_stands_217 : decode cX4_stands 217 = .ok (.iload 5, 2) := by decide +kernel
theorem dX4_stands_219 : decode cX4_stands 219 = .ok (.iload_n 3, 1) := by decide +kernel
theorem dX4_stands_220 : decode cX4_stands 220 = .ok (.invokevirtual 93, 3) := by decide +kernel
theorem dX4_stands_223 : decode cX4_stands 223 = .ok (.ireturn, 1) := by decide +kernel
theorem dX4_clearEdges_0 : decode cX4_clearEdges 0 = .ok (.aload_n 0, 1) := by decide +kernel
theorem dX4_clearEdges_1 : decode cX4_clearEdges 1 = .ok (.getfield 9, 3) := by decide +kernel
theorem dX4_clearEdges_4 : decode cX4_clearEdges 4 = .ok (.bipush 7, 2) := by decide +kernel
theorem dX4_clearEdges_6 : decode cX4_clearEdges 6 = .ok (.invokestatic 97, 3) := by decide +kernel
theorem dX4_clearEdges_9 : decode cX4_clearEdges 9 = .ok (.aload_n 0, 1) := by decide +kernel
theorem dX4_clearEdges_10 : decode cX4_clearEdges 10 = .ok (.getfield 15, 3) := by decide +kernel
theorem dX4_clearEdges_13 : decode cX4_clearEdges 13 = .ok (.iconst (-1), 1) := by decide +kernel
theorem dX4_clearEdges_14 : decode cX4_clearEdges 14 = .ok (.invokestatic 97, 3) := by decide +kernel
theorem dX4_clearEdges_17 : decode cX4_clearEdges 17 = .ok (.return_, 1) := by decide +kernel
theorem dX4_widenEdge_0 : decode cX4_widenEdge 0 = .ok (.iload_n 1, 1) := by decide +kernel
theorem dX4_widenEdge_1 : decode cX4_widenEdge 1 = .ok (.ifCond .lt 41, 3) := by decide +kernel
theorem dX4_widenEdge_4 : decode cX4_widenEdge 4 = .ok (.iload_n 1, 1) := by decide +kernel
theorem dX4_widenEdge_5 : decode cX4_widenEdge 5 = .ok (.bipush 6, 2) := by decide +kernel
theorem dX4_widenEdge_7 : decode cX4_widenEdge 7 = .ok (.if_icmp .gt 35, 3) := by decide +kernel
theorem dX4_widenEdge_10 : decode cX4_widenEdge 10 = .ok (.aload_n 0, 1) := by decide +kernel
theorem dX4_widenEdge_11 : decode cX4_widenEdge 11 = .ok (.getfield 9, 3) := by decide +kernel
theorem dX4_widenEdge_14 : decode cX4_widenEdge 14 = .ok (.iload_n 1, 1) := by decide +kernel
theorem dX4_widenEdge_15 : decode cX4_widenEdge 15 = .ok (.aload_n 0, 1) := by decide +kernel
theorem dX4_widenEdge_16 : decode cX4_widenEdge 16 = .ok (.getfield 9, 3) := by decide +kernel
theorem dX4_widenEdge_19 : decode cX4_widenEdge 19 = .ok (.iload_n 1, 1) := by decide +kernel
theorem dX4_widenEdge_20 : decode cX4_widenEdge 20 = .ok (.iaload, 1) := by decide +kernel
theorem dX4_widenEdge_21 : decode cX4_widenEdge 21 = .ok (.iload_n 2, 1) := by decide +kernel
theorem dX4_widenEdge_22 : decode cX4_widenEdge 22 = .ok (.invokestatic 103, 3) := by decide +kernel
theorem dX4_widenEdge_25 : decode cX4_widenEdge 25 = .ok (.iastore, 1) := by decide +kernel
theorem dX4_widenEdge_26 : decode cX4_widenEdge 26 = .ok (.aload_n 0, 1) := by decide +kernel
theorem dX4_widenEdge_27 : decode cX4_widenEdge 27 = .ok (.getfield 15, 3) := by decide +kernel
theorem dX4_widenEdge_30 : decode cX4_widenEdge 30 = .ok (.iload_n 1, 1) := by decide +kernel
theorem dX4_widenEdge_31 : decode cX4_widenEdge 31 = .ok (.aload_n 0, 1) := by decide +kernel
theorem dX4_widenEdge_32 : decode cX4_widenEdge 32 = .ok (.getfield 15, 3) := by decide +kernel
theorem dX4_widenEdge_35 : decode cX4_widenEdge 35 = .ok (.iload_n 1, 1) := by decide +kernel
theorem dX4_widenEdge_36 : decode cX4_widenEdge 36 = .ok (.iaload, 1) := by decide +kernel
theorem dX4_widenEdge_37 : decode cX4_widenEdge 37 = .ok (.iload_n 3, 1) := by decide +kernel
theorem dX4_widenEdge_38 : decode cX4_widenEdge 38 = .ok (.invokestatic 108, 3) := by decide +kernel
theorem dX4_widenEdge_41 : decode cX4_widenEdge 41 = .ok (.iastore, 1) := by decide +kernel
theorem dX4_widenEdge_42 : decode cX4_widenEdge 42 = .ok (.return_, 1) := by decide +kernel
theorem dX4_isWithinEdges_0 : decode cX4_isWithinEdges 0 = .ok (.iconst 0, 1) := by decide +kernel
theorem dX4_isWithinEdges_1 : decode cX4_isWithinEdges 1 = .ok (.istore 4, 2) := by decide +kernel
theorem dX4_isWithinEdges_3 : decode cX4_isWithinEdges 3 = .ok (.iconst 0, 1) := by decide +kernel
theorem dX4_isWithinEdges_4 : decode cX4_isWithinEdges 4 = .ok (.istore 5, 2) := by decide +kernel
theorem dX4_isWithinEdges_6 : decode cX4_isWithinEdges 6 = .ok (.iconst 0, 1) := by decide +kernel
theorem dX4_isWithinEdges_7 : decode cX4_isWithinEdges 7 = .ok (.istore 6, 2) := by decide +kernel
theorem dX4_isWithinEdges_9 : decode cX4_isWithinEdges 9 = .ok (.iload 6, 2) := by decide +kernel
theorem dX4_isWithinEdges_11 : decode cX4_isWithinEdges 11 = .ok (.bipush 6, 2) := by decide +kernel
theorem dX4_isWithinEdges_13 : decode cX4_isWithinEdges 13 = .ok (.if_icmp .gt 187, 3) := by decide +kernel
theorem dX4_isWithinEdges_16 : decode cX4_isWithinEdges 16 = .ok (.iload 6, 2) := by decide +kernel
theorem dX4_isWithinEdges_18 : decode cX4_isWithinEdges 18 = .ok (.istore 7, 2) := by decide +kernel
theorem dX4_isWithinEdges_20 : decode cX4_isWithinEdges 20 = .ok (.iload 7, 2) := by decide +kernel
theorem dX4_isWithinEdges_22 : decode cX4_isWithinEdges 22 = .ok (.bipush 6, 2) := by decide +kernel
theorem dX4_isWithinEdges_24 : decode cX4_isWithinEdges 24 = .ok (.if_icmp .gt 170, 3) := by decide +kernel
theorem dX4_isWithinEdges_27 : decode cX4_isWithinEdges 27 = .ok (.iload 6, 2) := by decide +kernel
theorem dX4_isWithinEdges_29 : decode cX4_isWithinEdges 29 = .ok (.iload_n 3, 1) := by decide +kernel
theorem dX4_isWithinEdges_30 : decode cX4_isWithinEdges 30 = .ok (.imul, 1) := by decide +kernel
theorem dX4_isWithinEdges_31 : decode cX4_isWithinEdges 31 = .ok (.iload_n 2, 1) := by decide +kernel
theorem dX4_isWithinEdges_32 : decode cX4_isWithinEdges 32 = .ok (.if_icmp .gt 15, 3) := by decide +kernel
theorem dX4_isWithinEdges_35 : decode cX4_isWithinEdges 35 = .ok (.iload_n 2, 1) := by decide +kernel
theorem dX4_isWithinEdges_36 : decode cX4_isWithinEdges 36 = .ok (.iload 7, 2) := by decide +kernel
theorem dX4_isWithinEdges_38 : decode cX4_isWithinEdges 38 = .ok (.iload_n 3, 1) := by decide +kernel
theorem dX4_isWithinEdges_39 : decode cX4_isWithinEdges 39 = .ok (.imul, 1) := by decide +kernel
theorem dX4_isWithinEdges_40 : decode cX4_isWithinEdges 40 = .ok (.if_icmp .gt 7, 3) := by decide +kernel
theorem dX4_isWithinEdges_43 : decode cX4_isWithinEdges 43 = .ok (.iconst 1, 1) := by decide +kernel
theorem dX4_isWithinEdges_44 : decode cX4_isWithinEdges 44 = .ok (.goto 4, 3) := by decide +kernel
theorem dX4_isWithinEdges_47 : decode cX4_isWithinEdges 47 = .ok (.iconst 0, 1) := by decide +kernel
theorem dX4_isWithinEdges_48 : decode cX4_isWithinEdges 48 = .ok (.istore 8, 2) := by decide +kernel
theorem dX4_isWithinEdges_50 : decode cX4_isWithinEdges 50 = .ok (.iload 8, 2) := by decide +kernel
theorem dX4_isWithinEdges_52 : decode cX4_isWithinEdges 52 = .ok (.ifCond .eq 136, 3) := by decide +kernel
theorem dX4_isWithinEdges_55 : decode cX4_isWithinEdges 55 = .ok (.aload_n 0, 1) := by decide +kernel
theorem dX4_isWithinEdges_56 : decode cX4_isWithinEdges 56 = .ok (.getfield 15, 3) := by decide +kernel
theorem dX4_isWithinEdges_59 : decode cX4_isWithinEdges 59 = .ok (.iload 6, 2) := by decide +kernel
theorem dX4_isWithinEdges_61 : decode cX4_isWithinEdges 61 = .ok (.iaload, 1) := by decide +kernel
theorem dX4_isWithinEdges_62 : decode cX4_isWithinEdges 62 = .ok (.ifCond .lt 126, 3) := by decide +kernel
theorem dX4_isWithinEdges_65 : decode cX4_isWithinEdges 65 = .ok (.aload_n 0, 1) := by decide +kernel
theorem dX4_isWithinEdges_66 : decode cX4_isWithinEdges 66 = .ok (.getfield 15, 3) := by decide +kernel
theorem dX4_isWithinEdges_69 : decode cX4_isWithinEdges 69 = .ok (.iload 7, 2) := by decide +kernel
theorem dX4_isWithinEdges_71 : decode cX4_isWithinEdges 71 = .ok (.iaload, 1) := by decide +kernel
theorem dX4_isWithinEdges_72 : decode cX4_isWithinEdges 72 = .ok (.ifCond .lt 116, 3) := by decide +kernel
theorem dX4_isWithinEdges_75 : decode cX4_isWithinEdges 75 = .ok (.iconst 1, 1) := by decide +kernel
theorem dX4_isWithinEdges_76 : decode cX4_isWithinEdges 76 = .ok (.iload 7, 2) := by decide +kernel
theorem dX4_isWithinEdges_78 : decode cX4_isWithinEdges 78 = .ok (.iload 6, 2) := by decide +kernel
theorem dX4_isWithinEdges_80 : decode cX4_isWithinEdges 80 = .ok (.isub, 1) := by decide +kernel
theorem dX4_isWithinEdges_81 : decode cX4_isWithinEdges 81 = .ok (.invokestatic 108, 3) := by decide +kernel
theorem dX4_isWithinEdges_84 : decode cX4_isWithinEdges 84 = .ok (.istore 9, 2) := by decide +kernel
theorem dX4_isWithinEdges_86 : decode cX4_isWithinEdges 86 = .ok (.iload_n 2, 1) := by decide +kernel
theorem dX4_isWithinEdges_87 : decode cX4_isWithinEdges 87 = .ok (.iload 6, 2) := by decide +kernel
theorem dX4_isWithinEdges_89 : decode cX4_isWithinEdges 89 = .ok (.iload_n 3, 1) := by decide +kernel
theorem dX4_isWithinEdges_90 : decode cX4_isWithinEdges 90 = .ok (.imul, 1) := by decide +kernel
theorem dX4_isWithinEdges_91 : decode cX4_isWithinEdges 91 = .ok (.isub, 1) := by decide +kernel
theorem dX4_isWithinEdges_92 : decode cX4_isWithinEdges 92 = .ok (.istore 10, 2) := by decide +kernel
theorem dX4_isWithinEdges_94 : decode cX4_isWithinEdges 94 = .ok (.iload_n 1, 1) := by decide +kernel
theorem dX4_isWithinEdges_95 : decode cX4_isWithinEdges 95 = .ok (.iload 9, 2) := by decide +kernel
theorem dX4_isWithinEdges_97 : decode cX4_isWithinEdges 97 = .ok (.imul, 1) := by decide +kernel
theorem dX4_isWithinEdges_98 : decode cX4_isWithinEdges 98 = .ok (.aload_n 0, 1) := by decide +kernel
theorem dX4_isWithinEdges_99 : decode cX4_isWithinEdges 99 = .ok (.getfield 9, 3) := by decide +kernel
theorem dX4_isWithinEdges_102 : decode cX4_isWithinEdges 102 = .ok (.iload 6, 2) := by decide +kernel
theorem dX4_isWithinEdges_104 : decode cX4_isWithinEdges 104 = .ok (.iaload, 1) := by decide +kernel
theorem dX4_isWithinEdges_105 : decode cX4_isWithinEdges 105 = .ok (.aload_n 0, 1) := by decide +kernel
theorem dX4_isWithinEdges_106 : decode cX4_isWithinEdges 106 = .ok (.getfield 9, 3) := by decide +kernel
theorem dX4_isWithinEdges_109 : decode cX4_isWithinEdges 109 = .ok (.iload 7, 2) := by decide +kernel
theorem dX4_isWithinEdges_111 : decode cX4_isWithinEdges 111 = .ok (.iaload, 1) := by decide +kernel
theorem dX4_isWithinEdges_112 : decode cX4_isWithinEdges 112 = .ok (.iload 9, 2) := by decide +kernel
theorem dX4_isWithinEdges_114 : decode cX4_isWithinEdges 114 = .ok (.iload_n 3, 1) := by decide +kernel
theorem dX4_isWithinEdges_115 : decode cX4_isWithinEdges 115 = .ok (.imul, 1) := by decide +kernel
theorem dX4_isWithinEdges_116 : decode cX4_isWithinEdges 116 = .ok (.iload 10, 2) := by decide +kernel
theorem dX4_isWithinEdges_118 : decode cX4_isWithinEdges 118 = .ok (.invokestatic 111, 3) := by decide +kernel
theorem dX4_isWithinEdges_121 : decode cX4_isWithinEdges 121 = .ok (.isub, 1) := by decide +kernel
theorem dX4_isWithinEdges_122 : decode cX4_isWithinEdges 122 = .ok (.istore 11, 2) := by decide +kernel
theorem dX4_isWithinEdges_124 : decode cX4_isWithinEdges 124 = .ok (.iload_n 1, 1) := by decide +kernel
theorem dX4_isWithinEdges_125 : decode cX4_isWithinEdges 125 = .ok (.iload 9, 2) := by decide +kernel
theorem dX4_isWithinEdges_127 : decode cX4_isWithinEdges 127 = .ok (.imul, 1) := by decide +kernel
theorem dX4_isWithinEdges_128 : decode cX4_isWithinEdges 128 = .ok (.aload_n 0, 1) := by decide +kernel
theorem dX4_isWithinEdges_129 : decode cX4_isWithinEdges 129 = .ok (.getfield 15, 3) := by decide +kernel
theorem dX4_isWithinEdges_132 : decode cX4_isWithinEdges 132 = .ok (.iload 6, 2) := by decide +kernel
theorem dX4_isWithinEdges_134 : decode cX4_isWithinEdges 134 = .ok (.iaload, 1) := by decide +kernel
theorem dX4_isWithinEdges_135 : decode cX4_isWithinEdges 135 = .ok (.aload_n 0, 1) := by decide +kernel
theorem dX4_isWithinEdges_136 : decode cX4_isWithinEdges 136 = .ok (.getfield 15, 3) := by decide +kernel
theorem dX4_isWithinEdges_139 : decode cX4_isWithinEdges 139 = .ok (.iload 7, 2) := by decide +kernel
theorem dX4_isWithinEdges_141 : decode cX4_isWithinEdges 141 = .ok (.iaload, 1) := by decide +kernel
theorem dX4_isWithinEdges_142 : decode cX4_isWithinEdges 142 = .ok (.iload 9, 2) := by decide +kernel
theorem dX4_isWithinEdges_144 : decode cX4_isWithinEdges 144 = .ok (.iload_n 3, 1) := by decide +kernel
theorem dX4_isWithinEdges_145 : decode cX4_isWithinEdges 145 = .ok (.imul, 1) := by decide +kernel
theorem dX4_isWithinEdges_146 : decode cX4_isWithinEdges 146 = .ok (.iload 10, 2) := by decide +kernel
theorem dX4_isWithinEdges_148 : decode cX4_isWithinEdges 148 = .ok (.invokestatic 111, 3) := by decide +kernel
theorem dX4_isWithinEdges_151 : decode cX4_isWithinEdges 151 = .ok (.isub, 1) := by decide +kernel
theorem dX4_isWithinEdges_152 : decode cX4_isWithinEdges 152 = .ok (.istore 12, 2) := by decide +kernel
theorem dX4_isWithinEdges_154 : decode cX4_isWithinEdges 154 = .ok (.iload 4, 2) := by decide +kernel
theorem dX4_isWithinEdges_156 : decode cX4_isWithinEdges 156 = .ok (.ifCond .ne 8, 3) := by decide +kernel
theorem dX4_isWithinEdges_159 : decode cX4_isWithinEdges 159 = .ok (.iload 11, 2) := by decide +kernel
theorem dX4_isWithinEdges_161 : decode cX4_isWithinEdges 161 = .ok (.ifCond .lt 7, 3) := by decide +kernel
theorem dX4_isWithinEdges_164 : decode cX4_isWithinEdges 164 = .ok (.iconst 1, 1) := by decide +kernel
theorem dX4_isWithinEdges_165 : decode cX4_isWithinEdges 165 = .ok (.goto 4, 3) := by decide +kernel
theorem dX4_isWithinEdges_168 : decode cX4_isWithinEdges 168 = .ok (.iconst 0, 1) := by decide +kernel
theorem dX4_isWithinEdges_169 : decode cX4_isWithinEdges 169 = .ok (.istore 4, 2) := by decide +kernel
theorem dX4_isWithinEdges_171 : decode cX4_isWithinEdges 171 = .ok (.iload 5, 2) := by decide +kernel
theorem dX4_isWithinEdges_173 : decode cX4_isWithinEdges 173 = .ok (.ifCond .ne 8, 3) := by decide +kernel
theorem dX4_isWithinEdges_176 : decode cX4_isWithinEdges 176 = .ok (.iload 12, 2) := by decide +kernel
theorem dX4_isWithinEdges_178 : decode cX4_isWithinEdges 178 = .ok (.ifCond .gt 7, 3) := by decide +kernel
theorem dX4_isWithinEdges_181 : decode cX4_isWithinEdges 181 = .ok (.iconst 1, 1) := by decide +kernel
theorem dX4_isWithinEdges_182 : decode cX4_isWithinEdges 182 = .ok (.goto 4, 3) := by decide +kernel
theorem dX4_isWithinEdges_185 : decode cX4_isWithinEdges 185 = .ok (.iconst 0, 1) := by decide +kernel
theorem dX4_isWithinEdges_186 : decode cX4_isWithinEdges 186 = .ok (.istore 5, 2) := by decide +kernel
theorem dX4_isWithinEdges_188 : decode cX4_isWithinEdges 188 = .ok (.iinc 7 1, 3) := by decide +kernel
theorem dX4_isWithinEdges_191 : decode cX4_isWithinEdges 191 = .ok (.goto (-171), 3) := by decide +kernel
theorem dX4_isWithinEdges_194 : decode cX4_isWithinEdges 194 = .ok (.iinc 6 1, 3) := by decide +kernel
theorem dX4_isWithinEdges_197 : decode cX4_isWithinEdges 197 = .ok (.goto (-188), 3) := by decide +kernel
theorem dX4_isWithinEdges_200 : decode cX4_isWithinEdges 200 = .ok (.iload 4, 2) := by decide +kernel
theorem dX4_isWithinEdges_202 : decode cX4_isWithinEdges 202 = .ok (.ifCond .eq 12, 3) := by decide +kernel
theorem dX4_isWithinEdges_205 : decode cX4_isWithinEdges 205 = .ok (.iload 5, 2) := by decide +kernel
theorem dX4_isWithinEdges_207 : decode cX4_isWithinEdges 207 = .ok (.ifCond .eq 7, 3) := by decide +kernel
theorem dX4_isWithinEdges_210 : decode cX4_isWithinEdges 210 = .ok (.iconst 1, 1) := by decide +kernel
theorem dX4_isWithinEdges_211 : decode cX4_isWithinEdges 211 = .ok (.goto 4, 3) := by decide +kernel
theorem dX4_isWithinEdges_214 : decode cX4_isWithinEdges 214 = .ok (.iconst 0, 1) := by decide +kernel
theorem dX4_isWithinEdges_215 : decode cX4_isWithinEdges 215 = .ok (.ireturn, 1) := by decide +kernel
theorem dX4_lineAt_0 : decode cX4_lineAt 0 = .ok (.iload_n 0, 1) := by decide +kernel
theorem dX4_lineAt_1 : decode cX4_lineAt 1 = .ok (.iload_n 2, 1) := by decide +kernel
theorem dX4_lineAt_2 : decode cX4_lineAt 2 = .ok (.imul, 1) := by decide +kernel
theorem dX4_lineAt_3 : decode cX4_lineAt 3 = .ok (.iload_n 1, 1) := by decide +kernel
theorem dX4_lineAt_4 : decode cX4_lineAt 4 = .ok (.iload_n 0, 1) := by decide +kernel
theorem dX4_lineAt_5 : decode cX4_lineAt 5 = .ok (.isub, 1) := by decide +kernel
theorem dX4_lineAt_6 : decode cX4_lineAt 6 = .ok (.iload_n 3, 1) := by decide +kernel
theorem dX4_lineAt_7 : decode cX4_lineAt 7 = .ok (.imul, 1) := by decide +kernel
theorem dX4_lineAt_8 : decode cX4_lineAt 8 = .ok (.iadd, 1) := by decide +kernel
theorem dX4_lineAt_9 : decode cX4_lineAt 9 = .ok (.ireturn, 1) := by decide +kernel
theorem dX4_isKey_0 : decode cX4_isKey 0 = .ok (.lload_n 2, 1) := by decide +kernel
theorem dX4_isKey_1 : decode cX4_isKey 1 = .ok (.lconst 1, 1) := by decide +kernel
theorem dX4_isKey_2 : decode cX4_isKey 2 = .ok (.iload_n 1, 1) := by decide +kernel
theorem dX4_isKey_3 : decode cX4_isKey 3 = .ok (.lshl, 1) := by decide +kernel
theorem dX4_isKey_4 : decode cX4_isKey 4 = .ok (.ldc2_w 36, 3) := by decide +kernel
theorem dX4_isKey_7 : decode cX4_isKey 7 = .ok (.lxor, 1) := by decide +kernel
theorem dX4_isKey_8 : decode cX4_isKey 8 = .ok (.land, 1) := by decide +kernel
theorem dX4_isKey_9 : decode cX4_isKey 9 = .ok (.lstore 4, 2) := by decide +kernel
theorem dX4_isKey_11 : decode cX4_isKey 11 = .ok (.aload_n 0, 1) := by decide +kernel
theorem dX4_isKey_12 : decode cX4_isKey 12 = .ok (.lload 4, 2) := by decide +kernel
theorem dX4_isKey_14 : decode cX4_isKey 14 = .ok (.lload 4, 2) := by decide +kernel
theorem dX4_isKey_16 : decode cX4_isKey 16 = .ok (.lneg, 1) := by decide +kernel
theorem dX4_isKey_17 : decode cX4_isKey 17 = .ok (.land, 1) := by decide +kernel
theorem dX4_isKey_18 : decode cX4_isKey 18 = .ok (.lload 4, 2) := by decide +kernel
theorem dX4_isKey_20 : decode cX4_isKey 20 = .ok (.invokevirtual 38, 3) := by decide +kernel
theorem dX4_isKey_23 : decode cX4_isKey 23 = .ok (.lload 4, 2) := by decide +kernel
theorem dX4_isKey_25 : decode cX4_isKey 25 = .ok (.lcmp, 1) := by decide +kernel
theorem dX4_isKey_26 : decode cX4_isKey 26 = .ok (.ifCond .eq 7, 3) := by decide +kernel
theorem dX4_isKey_29 : decode cX4_isKey 29 = .ok (.iconst 1, 1) := by decide +kernel
theorem dX4_isKey_30 : decode cX4_isKey 30 = .ok (.goto 4, 3) := by decide +kernel
theorem dX4_isKey_33 : decode cX4_isKey 33 = .ok (.iconst 0, 1) := by decide +kernel
theorem dX4_isKey_34 : decode cX4_isKey 34 = .ok (.ireturn, 1) := by decide +kernel
theorem dX4_countWeak_0 : decode cX4_countWeak 0 = .ok (.aload_n 0, 1) := by decide +kernel
theorem dX4_countWeak_1 : decode cX4_countWeak 1 = .ok (.lload_n 2, 1) := by decide +kernel
theorem dX4_countWeak_2 : decode cX4_countWeak 2 = .ok (.invokevirtual 46, 3) := by decide +kernel
theorem dX4_countWeak_5 : decode cX4_countWeak 5 = .ok (.ifCond .ne 20, 3) := by decide +kernel
theorem dX4_countWeak_8 : decode cX4_countWeak 8 = .ok (.aload_n 0, 1) := by decide +kernel
theorem dX4_countWeak_9 : decode cX4_countWeak 9 = .ok (.getfield 22, 3) := by decide +kernel
theorem dX4_countWeak_12 : decode cX4_countWeak 12 = .ok (.iload_n 1, 1) := by decide +kernel
theorem dX4_countWeak_13 : decode cX4_countWeak 13 = .ok (.invokevirtual 30, 3) := by decide +kernel
theorem dX4_countWeak_16 : decode cX4_countWeak 16 = .ok (.lload_n 2, 1) := by decide +kernel
theorem dX4_countWeak_17 : decode cX4_countWeak 17 = .ok (.land, 1) := by decide +kernel
theorem dX4_countWeak_18 : decode cX4_countWeak 18 = .ok (.invokestatic 115, 3) := by decide +kernel
theorem dX4_countWeak_21 : decode cX4_countWeak 21 = .ok (.iconst 2, 1) := by decide +kernel
theorem dX4_countWeak_22 : decode cX4_countWeak 22 = .ok (.if_icmp .ge 5, 3) := by decide +kernel
theorem dX4_countWeak_25 : decode cX4_countWeak 25 = .ok (.iconst 0, 1) := by decide +kernel
theorem dX4_countWeak_26 : decode cX4_countWeak 26 = .ok (.ireturn, 1) := by decide +kernel
theorem dX4_countWeak_27 : decode cX4_countWeak 27 = .ok (.lload_n 2, 1) := by decide +kernel
theorem dX4_countWeak_28 : decode cX4_countWeak 28 = .ok (.lconst 1, 1) := by decide +kernel
theorem dX4_countWeak_29 : decode cX4_countWeak 29 = .ok (.iload_n 1, 1) := by decide +kernel
theorem dX4_countWeak_30 : decode cX4_countWeak 30 = .ok (.lshl, 1) := by decide +kernel
theorem dX4_countWeak_31 : decode cX4_countWeak 31 = .ok (.ldc2_w 36, 3) := by decide +kernel
theorem dX4_countWeak_34 : decode cX4_countWeak 34 = .ok (.lxor, 1) := by decide +kernel
theorem dX4_countWeak_35 : decode cX4_countWeak 35 = .ok (.land, 1) := by decide +kernel
theorem dX4_countWeak_36 : decode cX4_countWeak 36 = .ok (.lstore 4, 2) := by decide +kernel
theorem dX4_countWeak_38 : decode cX4_countWeak 38 = .ok (.aload_n 0, 1) := by decide +kernel
theorem dX4_countWeak_39 : decode cX4_countWeak 39 = .ok (.lload 4, 2) := by decide +kernel
theorem dX4_countWeak_41 : decode cX4_countWeak 41 = .ok (.lload 4, 2) := by decide +kernel
theorem dX4_countWeak_43 : decode cX4_countWeak 43 = .ok (.lneg, 1) := by decide +kernel
theorem dX4_countWeak_44 : decode cX4_countWeak 44 = .ok (.land, 1) := by decide +kernel
theorem dX4_countWeak_45 : decode cX4_countWeak 45 = .ok (.lload 4, 2) := by decide +kernel
theorem dX4_countWeak_47 : decode cX4_countWeak 47 = .ok (.invokevirtual 38, 3) := by decide +kernel
theorem dX4_countWeak_50 : decode cX4_countWeak 50 = .ok (.lload 4, 2) := by decide +kernel
theorem dX4_countWeak_52 : decode cX4_countWeak 52 = .ok (.lcmp, 1) := by decide +kernel
theorem dX4_countWeak_53 : decode cX4_countWeak 53 = .ok (.ifCond .ne 5, 3) := by decide +kernel
theorem dX4_countWeak_56 : decode cX4_countWeak 56 = .ok (.iconst 0, 1) := by decide +kernel
theorem dX4_countWeak_57 : decode cX4_countWeak 57 = .ok (.ireturn, 1) := by decide +kernel
theorem dX4_countWeak_58 : decode cX4_countWeak 58 = .ok (.iconst 0, 1) := by decide +kernel
theorem dX4_countWeak_59 : decode cX4_countWeak 59 = .ok (.istore 6, 2) := by decide +kernel
theorem dX4_countWeak_61 : decode cX4_countWeak 61 = .ok (.iconst 0, 1) := by decide +kernel
theorem dX4_countWeak_62 : decode cX4_countWeak 62 = .ok (.istore 7, 2) := by decide +kernel
theorem dX4_countWeak_64 : decode cX4_countWeak 64 = .ok (.iload 7, 2) := by decide +kernel
theorem dX4_countWeak_66 : decode cX4_countWeak 66 = .ok (.bipush 40, 2) := by decide +kernel
theorem dX4_countWeak_68 : decode cX4_countWeak 68 = .ok (.if_icmp .ge 74, 3) := by decide +kernel
theorem dX4_countWeak_71 : decode cX4_countWeak 71 = .ok (.lload 4, 2) := by decide +kernel
theorem dX4_countWeak_73 : decode cX4_countWeak 73 = .ok (.lconst 0, 1) := by decide +kernel
theorem dX4_countWeak_74 : decode cX4_countWeak 74 = .ok (.lcmp, 1) := by decide +kernel
theorem dX4_countWeak_75 : decode cX4_countWeak 75 = .ok (.ifCond .eq 67, 3) := by decide +kernel
theorem dX4_countWeak_78 : decode cX4_countWeak 78 = .ok (.aload_n 0, 1) := by decide +kernel
theorem dX4_countWeak_79 : decode cX4_countWeak 79 = .ok (.lload 4, 2) := by decide +kernel
theorem dX4_countWeak_81 : decode cX4_countWeak 81 = .ok (.lload 4, 2) := by decide +kernel
theorem dX4_countWeak_83 : decode cX4_countWeak 83 = .ok (.lneg, 1) := by decide +kernel
theorem dX4_countWeak_84 : decode cX4_countWeak 84 = .ok (.land, 1) := by decide +kernel
theorem dX4_countWeak_85 : decode cX4_countWeak 85 = .ok (.lload 4, 2) := by decide +kernel
theorem dX4_countWeak_87 : decode cX4_countWeak 87 = .ok (.invokevirtual 38, 3) := by decide +kernel
theorem dX4_countWeak_90 : decode cX4_countWeak 90 = .ok (.lstore 8, 2) := by decide +kernel
theorem dX4_countWeak_92 : decode cX4_countWeak 92 = .ok (.lload 4, 2) := by decide +kernel
theorem dX4_countWeak_94 : decode cX4_countWeak 94 = .ok (.lload 8, 2) := by decide +kernel
theorem dX4_countWeak_96 : decode cX4_countWeak 96 = .ok (.ldc2_w 36, 3) := by decide +kernel
theorem dX4_countWeak_99 : decode cX4_countWeak 99 = .ok (.lxor, 1) := by decide +kernel
theorem dX4_countWeak_100 : decode cX4_countWeak 100 = .ok (.land, 1) := by decide +kernel
theorem dX4_countWeak_101 : decode cX4_countWeak 101 = .ok (.lstore 4, 2) := by decide +kernel
theorem dX4_countWeak_103 : decode cX4_countWeak 103 = .ok (.aload_n 0, 1) := by decide +kernel
theorem dX4_countWeak_104 : decode cX4_countWeak 104 = .ok (.lload 8, 2) := by decide +kernel
theorem dX4_countWeak_106 : decode cX4_countWeak 106 = .ok (.invokevirtual 46, 3) := by decide +kernel
theorem dX4_countWeak_109 : decode cX4_countWeak 109 = .ok (.ifCond .eq 27, 3) := by decide +kernel
theorem dX4_countWeak_112 : decode cX4_countWeak 112 = .ok (.aload_n 0, 1) := by decide +kernel
theorem dX4_countWeak_113 : decode cX4_countWeak 113 = .ok (.lload 8, 2) := by decide +kernel
theorem dX4_countWeak_115 : decode cX4_countWeak 115 = .ok (.invokevirtual 73, 3) := by decide +kernel
theorem dX4_countWeak_118 : decode cX4_countWeak 118 = .ok (.aload_n 0, 1) := by decide +kernel
theorem dX4_countWeak_119 : decode cX4_countWeak 119 = .ok (.getfield 18, 3) := by decide +kernel
theorem dX4_countWeak_122 : decode cX4_countWeak 122 = .ok (.aload_n 0, 1) := by decide +kernel
theorem dX4_countWeak_123 : decode cX4_countWeak 123 = .ok (.iload_n 1, 1) := by decide +kernel
theorem dX4_countWeak_124 : decode cX4_countWeak 124 = .ok (.lload 8, 2) := by decide +kernel
theorem dX4_countWeak_126 : decode cX4_countWeak 126 = .ok (.invokevirtual 120, 3) := by decide +kernel
theorem dX4_countWeak_129 : decode cX4_countWeak 129 = .ok (.imul, 1) := by decide +kernel
theorem dX4_countWeak_130 : decode cX4_countWeak 130 = .ok (.if_icmp .le 6, 3) := by decide +kernel
theorem dX4_countWeak_133 : decode cX4_countWeak 133 = .ok (.iinc 6 1, 3) := by decide +kernel
theorem dX4_countWeak_136 : decode cX4_countWeak 136 = .ok (.iinc 7 1, 3) := by decide +kernel
theorem dX4_countWeak_139 : decode cX4_countWeak 139 = .ok (.goto (-75), 3) := by decide +kernel
theorem dX4_countWeak_142 : decode cX4_countWeak 142 = .ok (.iload 6, 2) := by decide +kernel
theorem dX4_countWeak_144 : decode cX4_countWeak 144 = .ok (.ireturn, 1) := by decide +kernel
theorem dX4_studsBetween_0 : decode cX4_studsBetween 0 = .ok (.iconst 0, 1) := by decide +kernel
theorem dX4_studsBetween_1 : decode cX4_studsBetween 1 = .ok (.istore 4, 2) := by decide +kernel
theorem dX4_studsBetween_3 : decode cX4_studsBetween 3 = .ok (.iconst 0, 1) := by decide +kernel
theorem dX4_studsBetween_4 : decode cX4_studsBetween 4 = .ok (.istore 5, 2) := by decide +kernel
theorem dX4_studsBetween_6 : decode cX4_studsBetween 6 = .ok (.iload 5, 2) := by decide +kernel
theorem dX4_studsBetween_8 : decode cX4_studsBetween 8 = .ok (.aload_n 0, 1) := by decide +kernel
theorem dX4_studsBetween_9 : decode cX4_studsBetween 9 = .ok (.getfield 22, 3) := by decide +kernel
theorem dX4_studsBetween_12 : decode cX4_studsBetween 12 = .ok (.invokevirtual 50, 3) := by decide +kernel
theorem dX4_studsBetween_15 : decode cX4_studsBetween 15 = .ok (.if_icmp .ge 35, 3) := by decide +kernel
theorem dX4_studsBetween_18 : decode cX4_studsBetween 18 = .ok (.lload_n 2, 1) := by decide +kernel
theorem dX4_studsBetween_19 : decode cX4_studsBetween 19 = .ok (.iload 5, 2) := by decide +kernel
theorem dX4_studsBetween_21 : decode cX4_studsBetween 21 = .ok (.lushr, 1) := by decide +kernel
theorem dX4_studsBetween_22 : decode cX4_studsBetween 22 = .ok (.lconst 1, 1) := by decide +kernel
theorem dX4_studsBetween_23 : decode cX4_studsBetween 23 = .ok (.land, 1) := by decide +kernel
theorem dX4_studsBetween_24 : decode cX4_studsBetween 24 = .ok (.lconst 1, 1) := by decide +kernel
theorem dX4_studsBetween_25 : decode cX4_studsBetween 25 = .ok (.lcmp, 1) := by decide +kernel
theorem dX4_studsBetween_26 : decode cX4_studsBetween 26 = .ok (.ifCond .ne 18, 3) := by decide +kernel
theorem dX4_studsBetween_29 : decode cX4_studsBetween 29 = .ok (.iload 4, 2) := by decide +kernel
theorem dX4_studsBetween_31 : decode cX4_studsBetween 31 = .ok (.aload_n 0, 1) := by decide +kernel
theorem dX4_studsBetween_32 : decode cX4_studsBetween 32 = .ok (.getfield 22, 3) := by decide +kernel
theorem dX4_studsBetween_35 : decode cX4_studsBetween 35 = .ok (.iload_n 1, 1) := by decide +kernel
theorem dX4_studsBetween_36 : decode cX4_studsBetween 36 = .ok (.iload 5, 2) := by decide +kernel
theorem dX4_studsBetween_38 : decode cX4_studsBetween 38 = .ok (.invokevirtual 124, 3) := by decide +kernel
theorem dX4_studsBetween_41 : decode cX4_studsBetween 41 = .ok (.iadd, 1) := by decide +kernel
theorem dX4_studsBetween_42 : decode cX4_studsBetween 42 = .ok (.istore 4, 2) := by decide +kernel
theorem dX4_studsBetween_44 : decode cX4_studsBetween 44 = .ok (.iinc 5 1, 3) := by decide +kernel
theorem dX4_studsBetween_47 : decode cX4_studsBetween 47 = .ok (.goto (-41), 3) := by decide +kernel
theorem dX4_studsBetween_50 : decode cX4_studsBetween 50 = .ok (.iload 4, 2) := by decide +kernel
theorem dX4_studsBetween_52 : decode cX4_studsBetween 52 = .ok (.ireturn, 1) := by decide +kernel
theorem dX4_isSound_0 : decode cX4_isSound 0 = .ok (.aload_n 0, 1) := by decide +kernel
theorem dX4_isSound_1 : decode cX4_isSound 1 = .ok (.getfield 22, 3) := by decide +kernel
theorem dX4_isSound_4 : decode cX4_isSound 4 = .ok (.invokevirtual 42, 3) := by decide +kernel
theorem dX4_isSound_7 : decode cX4_isSound 7 = .ok (.lstore_n 1, 1) := by decide +kernel
theorem dX4_isSound_8 : decode cX4_isSound 8 = .ok (.iconst 0, 1) := by decide +kernel
theorem dX4_isSound_9 : decode cX4_isSound 9 = .ok (.istore_n 3, 1) := by decide +kernel
theorem dX4_isSound_10 : decode cX4_isSound 10 = .ok (.iload_n 3, 1) := by decide +kernel
theorem dX4_isSound_11 : decode cX4_isSound 11 = .ok (.bipush 40, 2) := by decide +kernel
theorem dX4_isSound_13 : decode cX4_isSound 13 = .ok (.if_icmp .ge 46, 3) := by decide +kernel
theorem dX4_isSound_16 : decode cX4_isSound 16 = .ok (.lload_n 1, 1) := by decide +kernel
theorem dX4_isSound_17 : decode cX4_isSound 17 = .ok (.lconst 0, 1) := by decide +kernel
theorem dX4_isSound_18 : decode cX4_isSound 18 = .ok (.lcmp, 1) := by decide +kernel
theorem dX4_isSound_19 : decode cX4_isSound 19 = .ok (.ifCond .eq 40, 3) := by decide +kernel
theorem dX4_isSound_22 : decode cX4_isSound 22 = .ok (.aload_n 0, 1) := by decide +kernel
theorem dX4_isSound_23 : decode cX4_isSound 23 = .ok (.lload_n 1, 1) := by decide +kernel
theorem dX4_isSound_24 : decode cX4_isSound 24 = .ok (.lload_n 1, 1) := by decide +kernel
theorem dX4_isSound_25 : decode cX4_isSound 25 = .ok (.lneg, 1) := by decide +kernel
theorem dX4_isSound_26 : decode cX4_isSound 26 = .ok (.land, 1) := by decide +kernel
theorem dX4_isSound_27 : decode cX4_isSound 27 = .ok (.lload_n 1, 1) := by decide +kernel
theorem dX4_isSound_28 : decode cX4_isSound 28 = .ok (.invokevirtual 38, 3) := by decide +kernel
theorem dX4_isSound_31 : decode cX4_isSound 31 = .ok (.lstore 4, 2) := by decide +kernel
theorem dX4_isSound_33 : decode cX4_isSound 33 = .ok (.lload_n 1, 1) := by decide +kernel
theorem dX4_isSound_34 : decode cX4_isSound 34 = .ok (.lload 4, 2) := by decide +kernel
theorem dX4_isSound_36 : decode cX4_isSound 36 = .ok (.ldc2_w 36, 3) := by decide +kernel
theorem dX4_isSound_39 : decode cX4_isSound 39 = .ok (.lxor, 1) := by decide +kernel
theorem dX4_isSound_40 : decode cX4_isSound 40 = .ok (.land, 1) := by decide +kernel
theorem dX4_isSound_41 : decode cX4_isSound 41 = .ok (.lstore_n 1, 1) := by decide +kernel
theorem dX4_isSound_42 : decode cX4_isSound 42 = .ok (.aload_n 0, 1) := by decide +kernel
theorem dX4_isSound_43 : decode cX4_isSound 43 = .ok (.lload 4, 2) := by decide +kernel
theorem dX4_isSound_45 : decode cX4_isSound 45 = .ok (.invokevirtual 127, 3) := by decide +kernel
theorem dX4_isSound_48 : decode cX4_isSound 48 = .ok (.ifCond .ne 5, 3) := by decide +kernel
theorem dX4_isSound_51 : decode cX4_isSound 51 = .ok (.iconst 0, 1) := by decide +kernel
theorem dX4_isSound_52 : decode cX4_isSound 52 = .ok (.ireturn, 1) := by decide +kernel
theorem dX4_isSound_53 : decode cX4_isSound 53 = .ok (.iinc 3 1, 3) := by decide +kernel
theorem dX4_isSound_56 : decode cX4_isSound 56 = .ok (.goto (-46), 3) := by decide +kernel
theorem dX4_isSound_59 : decode cX4_isSound 59 = .ok (.iconst 1, 1) := by decide +kernel
theorem dX4_isSound_60 : decode cX4_isSound 60 = .ok (.ireturn, 1) := by decide +kernel
theorem dX4_isSoundPiece_0 : decode cX4_isSoundPiece 0 = .ok (.aload_n 0, 1) := by decide +kernel
theorem dX4_isSoundPiece_1 : decode cX4_isSoundPiece 1 = .ok (.lload_n 1, 1) := by decide +kernel
theorem dX4_isSoundPiece_2 : decode cX4_isSoundPiece 2 = .ok (.invokevirtual 130, 3) := by decide +kernel
theorem dX4_isSoundPiece_5 : decode cX4_isSoundPiece 5 = .ok (.ifCond .ne 5, 3) := by decide +kernel
theorem dX4_isSoundPiece_8 : decode cX4_isSoundPiece 8 = .ok (.iconst 0, 1) := by decide +kernel
theorem dX4_isSoundPiece_9 : decode cX4_isSoundPiece 9 = .ok (.ireturn, 1) := by decide +kernel
theorem dX4_isSoundPiece_10 : decode cX4_isSoundPiece 10 = .ok (.iconst 0, 1) := by decide +kernel
theorem dX4_isSoundPiece_11 : decode cX4_isSoundPiece 11 = .ok (.istore_n 3, 1) := by decide +kernel
theorem dX4_isSoundPiece_12 : decode cX4_isSoundPiece 12 = .ok (.iload_n 3, 1) := by decide +kernel
theorem dX4_isSoundPiece_13 : decode cX4_isSoundPiece 13 = .ok (.aload_n 0, 1) := by decide +kernel
theorem dX4_isSoundPiece_14 : decode cX4_isSoundPiece 14 = .ok (.getfield 22, 3) := by decide +kernel
theorem dX4_isSoundPiece_17 : decode cX4_isSoundPiece 17 = .ok (.invokevirtual 50, 3) := by decide +kernel
theorem dX4_isSoundPiece_20 : decode cX4_isSoundPiece 20 = .ok (.if_icmp .ge 30, 3) := by decide +kernel
theorem dX4_isSoundPiece_23 : decode cX4_isSoundPiece 23 = .ok (.lload_n 1, 1) := by decide +kernel
theorem dX4_isSoundPiece_24 : decode cX4_isSoundPiece 24 = .ok (.iload_n 3, 1) := by decide +kernel
theorem dX4_isSoundPiece_25 : decode cX4_isSoundPiece 25 = .ok (.lushr, 1) := by decide +kernel
theorem dX4_isSoundPiece_26 : decode cX4_isSoundPiece 26 = .ok (.lconst 1, 1) := by decide +kernel
theorem dX4_isSoundPiece_27 : decode cX4_isSoundPiece 27 = .ok (.land, 1) := by decide +kernel
theorem dX4_isSoundPiece_28 : decode cX4_isSoundPiece 28 = .ok (.lconst 1, 1) := by decide +kernel
theorem dX4_isSoundPiece_29 : decode cX4_isSoundPiece 29 = .ok (.lcmp, 1) := by decide +kernel
theorem dX4_isSoundPiece_30 : decode cX4_isSoundPiece 30 = .ok (.ifCond .ne 14, 3) := by decide +kernel
theorem dX4_isSoundPiece_33 : decode cX4_isSoundPiece 33 = .ok (.aload_n 0, 1) := by decide +kernel
theorem dX4_isSoundPiece_34 : decode cX4_isSoundPiece 34 = .ok (.iload_n 3, 1) := by decide +kernel
theorem dX4_isSoundPiece_35 : decode cX4_isSoundPiece 35 = .ok (.lload_n 1, 1) := by decide +kernel
theorem dX4_isSoundPiece_36 : decode cX4_isSoundPiece 36 = .ok (.invokevirtual 133, 3) := by decide +kernel
theorem dX4_isSoundPiece_39 : decode cX4_isSoundPiece 39 = .ok (.ifCond .le 5, 3) := by decide +kernel
theorem dX4_isSoundPiece_42 : decode cX4_isSoundPiece 42 = .ok (.iconst 0, 1) := by decide +kernel
theorem dX4_isSoundPiece_43 : decode cX4_isSoundPiece 43 = .ok (.ireturn, 1) := by decide +kernel
theorem dX4_isSoundPiece_44 : decode cX4_isSoundPiece 44 = .ok (.iinc 3 1, 3) := by decide +kernel
theorem dX4_isSoundPiece_47 : decode cX4_isSoundPiece 47 = .ok (.goto (-35), 3) := by decide +kernel
theorem dX4_isSoundPiece_50 : decode cX4_isSoundPiece 50 = .ok (.iconst 1, 1) := by decide +kernel
theorem dX4_isSoundPiece_51 : decode cX4_isSoundPiece 51 = .ok (.ireturn, 1) := by decide +kernel
theorem dX5_init_0 : decode cX5_init 0 = .ok (.aload_n 0, 1) := by decide +kernel
theorem dX5_init_1 : decode cX5_init 1 = .ok (.invokespecial 3, 3) := by decide +kernel
theorem dX5_init_4 : decode cX5_init 4 = .ok (.aload_n 0, 1) := by decide +kernel
theorem dX5_init_5 : decode cX5_init 5 = .ok (.bipush 12, 2) := by decide +kernel
theorem dX5_init_7 : decode cX5_init 7 = .ok (.newarray .int, 2) := by decide +kernel
theorem dX5_init_9 : decode cX5_init 9 = .ok (.putfield 11, 3) := by decide +kernel
theorem dX5_init_12 : decode cX5_init 12 = .ok (.aload_n 0, 1) := by decide +kernel
theorem dX5_init_13 : decode cX5_init 13 = .ok (.bipush 12, 2) := by decide +kernel
theorem dX5_init_15 : decode cX5_init 15 = .ok (.newarray .long, 2) := by decide +kernel
theorem dX5_init_17 : decode cX5_init 17 = .ok (.putfield 15, 3) := by decide +kernel
theorem dX5_init_20 : decode cX5_init 20 = .ok (.aload_n 0, 1) := by decide +kernel
theorem dX5_init_21 : decode cX5_init 21 = .ok (.bipush 12, 2) := by decide +kernel
theorem dX5_init_23 : decode cX5_init 23 = .ok (.newarray .int, 2) := by decide +kernel
theorem dX5_init_25 : decode cX5_init 25 = .ok (.putfield 19, 3) := by decide +kernel
theorem dX5_init_28 : decode cX5_init 28 = .ok (.aload_n 0, 1) := by decide +kernel
theorem dX5_init_29 : decode cX5_init 29 = .ok (.sipush 4096, 3) := by decide +kernel
theorem dX5_init_32 : decode cX5_init 32 = .ok (.newarray .boolean, 2) := by decide +kernel
theorem dX5_init_34 : decode cX5_init 34 = .ok (.putfield 22, 3) := by decide +kernel
theorem dX5_init_37 : decode cX5_init 37 = .ok (.aload_n 0, 1) := by decide +kernel
theorem dX5_init_38 : decode cX5_init 38 = .ok (.aload_n 1, 1) := by decide +kernel
theorem dX5_init_39 : decode cX5_init 39 = .ok (.putfield 26, 3) := by decide +kernel
theorem dX5_init_42 : decode cX5_init 42 = .ok (.aload_n 0, 1) := by decide +kernel
theorem dX5_init_43 : decode cX5_init 43 = .ok (.aload_n 2, 1) := by decide +kernel
theorem dX5_init_44 : decode cX5_init 44 = .ok (.putfield 30, 3) := by decide +kernel
theorem dX5_init_47 : decode cX5_init 47 = .ok (.return_, 1) := by decide +kernel
theorem dX5_forget_0 : decode cX5_forget 0 = .ok (.aload_n 0, 1) := by decide +kernel
theorem dX5_forget_1 : decode cX5_forget 1 = .ok (.iconst 0, 1) := by decide +kernel
theorem dX5_forget_2 : decode cX5_forget 2 = .ok (.putfield 34, 3) := by decide +kernel
theorem dX5_forget_5 : decode cX5_forget 5 = .ok (.return_, 1) := by decide +kernel
theorem dX5_brickAtStep_0 : decode cX5_brickAtStep 0 = .ok (.iload_n 1, 1) := by decide +kernel
theorem dX5_brickAtStep_1 : decode cX5_brickAtStep 1 = .ok (.ifCond .lt 20, 3) := by decide +kernel
theorem dX5_brickAtStep_4 : decode cX5_brickAtStep 4 = .ok (.iload_n 1, 1) := by decide +kernel
theorem dX5_brickAtStep_5 : decode cX5_brickAtStep 5 = .ok (.aload_n 0, 1) := by decide +kernel
theorem dX5_brickAtStep_6 : decode cX5_brickAtStep 6 = .ok (.getfield 38, 3) := by decide +kernel
theorem dX5_brickAtStep_9 : decode cX5_brickAtStep 9 = .ok (.if_icmp .ge 12, 3) := by decide +kernel
theorem dX5_brickAtStep_12 : decode cX5_brickAtStep 12 = .ok (.aload_n 0, 1) := by decide +kernel
theorem dX5_brickAtStep_13 : decode cX5_brickAtStep 13 = .ok (.getfield 19, 3) := by decide +kernel
theorem dX5_brickAtStep_16 : decode cX5_brickAtStep 16 = .ok (.iload_n 1, 1) := by decide +kernel
theorem dX5_brickAtStep_17 : decode cX5_brickAtStep 17 = .ok (.iaload, 1) := by decide +kernel
theorem dX5_brickAtStep_18 : decode cX5_brickAtStep 18 = .ok (.goto 5, 3) := by decide +kernel
theorem dX5_brickAtStep_21 : decode cX5_brickAtStep 21 = .ok (.bipush (-9), 2) := by decide +kernel
theorem dX5_brickAtStep_23 : decode cX5_brickAtStep 23 = .ok (.ireturn, 1) := by decide +kernel
theorem dX5_findRow_0 : decode cX5_findRow 0 = .ok (.aload_n 0, 1) := by decide +kernel
theorem dX5_findRow_1 : decode cX5_findRow 1 = .ok (.getfield 34, 3) := by decide +kernel
theorem dX5_findRow_4 : decode cX5_findRow 4 = .ok (.ifCond .eq 4, 3) := by decide +kernel
theorem dX5_findRow_7 : decode cX5_findRow 7 = .ok (.return_, 1) := by decide +kernel
theorem dX5_findRow_8 : decode cX5_findRow 8 = .ok (.aload_n 0, 1) := by decide +kernel
theorem dX5_findRow_9 : decode cX5_findRow 9 = .ok (.iconst 1, 1) := by decide +kernel
theorem dX5_findRow_10 : decode cX5_findRow 10 = .ok (.putfield 34, 3) := by decide +kernel
theorem dX5_findRow_13 : decode cX5_findRow 13 = .ok (.aload_n 0, 1) := by decide +kernel
theorem dX5_findRow_14 : decode cX5_findRow 14 = .ok (.iconst 0, 1) := by decide +kernel
theorem dX5_findRow_15 : decode cX5_findRow 15 = .ok (.putfield 38, 3) := by decide +kernel
theorem dX5_findRow_18 : decode cX5_findRow 18 = .ok (.aload_n 0, 1) := by decide +kernel
theorem dX5_findRow_19 : decode cX5_findRow 19 = .ok (.getfield 30, 3) := by decide +kernel
theorem dX5_findRow_22 : decode cX5_findRow 22 = .ok (.invokevirtual 42, 3) := by decide +kernel
theorem dX5_findRow_25 : decode cX5_findRow 25 = .ok (.ifCond .ne 4, 3) := by decide +kernel
theorem dX5_findRow_28 : decode cX5_findRow 28 = .ok (.return_, 1) := by decide +kernel
theorem dX5_findRow_29 : decode cX5_findRow 29 = .ok (.aload_n 0, 1) := by decide +kernel
theorem dX5_findRow_30 : decode cX5_findRow 30 = .ok (.invokevirtual 48, 3) := by decide +kernel
theorem dX5_findRow_33 : decode cX5_findRow 33 = .ok (.iconst 0, 1) := by decide +kernel
theorem dX5_findRow_34 : decode cX5_findRow 34 = .ok (.istore_n 1, 1) := by decide +kernel
theorem dX5_findRow_35 : decode cX5_findRow 35 = .ok (.iload_n 1, 1) := by decide +kernel
theorem dX5_findRow_36 : decode cX5_findRow 36 = .ok (.sipush 4096, 3) := by decide +kernel
theorem dX5_findRow_39 : decode cX5_findRow 39 = .ok (.if_icmp .ge 26, 3) := by decide +kernel
theorem dX5_findRow_42 : decode cX5_findRow 42 = .ok (.iload_n 1, 1) := by decide +kernel
theorem dX5_findRow_43 : decode cX5_findRow 43 = .ok (.iconst 1, 1) := by decide +kernel
theorem dX5_findRow_44 : decode cX5_findRow 44 = .ok (.aload_n 0, 1) := by decide +kernel
theorem dX5_findRow_45 : decode cX5_findRow 45 = .ok (.getfield 51, 3) := by decide +kernel
theorem dX5_findRow_48 : decode cX5_findRow 48 = .ok (.ishl, 1) := by decide +kernel
theorem dX5_findRow_49 : decode cX5_findRow 49 = .ok (.if_icmp .ge 16, 3) := by decide +kernel
theorem dX5_findRow_52 : decode cX5_findRow 52 = .ok (.aload_n 0, 1) := by decide +kernel
theorem dX5_findRow_53 : decode cX5_findRow 53 = .ok (.getfield 22, 3) := by decide +kernel
theorem dX5_findRow_56 : decode cX5_findRow 56 = .ok (.iload_n 1, 1) := by decide +kernel
theorem dX5_findRow_57 : decode cX5_findRow 57 = .ok (.iconst 0, 1) := by decide +kernel
theorem dX5_findRow_58 : decode cX5_findRow 58 = .ok (.bastore, 1) := by decide +kernel
theorem dX5_findRow_59 : decode cX5_findRow 59 = .ok (.iinc 1 1, 3) := by decide +kernel
theorem dX5_findRow_62 : decode cX5_findRow 62 = .ok (.goto (-27), 3) := by decide +kernel
theorem dX5_findRow_65 : decode cX5_findRow 65 = .ok (.aload_n 0, 1) := by decide +kernel
theorem dX5_findRow_66 : decode cX5_findRow 66 = .ok (.iconst 0, 1) := by decide +kernel
theorem dX5_findRow_67 : decode cX5_findRow 67 = .ok (.lconst 0, 1) := by decide +kernel
theorem dX5_findRow_68 : decode cX5_findRow 68 = .ok (.iconst 0, 1) := by decide +kernel
theorem dX5_findRow_69 : decode cX5_findRow 69 = .ok (.invokevirtual 54, 3) := by decide +kernel
theorem dX5_findRow_72 : decode cX5_findRow 72 = .ok (.ifCond .eq 11, 3) := by decide +kernel
theorem dX5_findRow_75 : decode cX5_findRow 75 = .ok (.aload_n 0, 1) := by decide +kernel
theorem dX5_findRow_76 : decode cX5_findRow 76 = .ok (.aload_n 0, 1) := by decide +kernel
theorem dX5_findRow_77 : decode cX5_findRow 77 = .ok (.getfield 51, 3) := by decide +kernel
theorem dX5_findRow_80 : decode cX5_findRow 80 = .ok (.putfield 38, 3) := by decide +kernel
theorem dX5_findRow_83 : decode cX5_findRow 83 = .ok (.return_, 1) := by decide +kernel
theorem dX5_collectBricks_0 : decode cX5_collectBricks 0 = .ok (.aload_n 0, 1) := by decide +kernel
theorem dX5_collectBricks_1 : decode cX5_collectBricks 1 = .ok (.iconst 0, 1) := by decide +kernel
theorem dX5_collectBricks_2 : decode cX5_collectBricks 2 = .ok (.putfield 51, 3) := by decide +kernel
theorem dX5_collectBricks_5 : decode cX5_collectBricks 5 = .ok (.iconst 0, 1) := by decide +kernel
theorem dX5_collectBricks_6 : decode cX5_collectBricks 6 = .ok (.istore_n 1, 1) := by decide +kernel
theorem dX5_collectBricks_7 : decode cX5_collectBricks 7 = .ok (.iload_n 1, 1) := by decide +kernel
theorem dX5_collectBricks_8 : decode cX5_collectBricks 8 = .ok (.aload_n 0, 1) := by decide +kernel
theorem dX5_collectBricks_9 : decode cX5_collectBricks 9 = .ok (.getfield 26, 3) := by decide +kernel
theorem dX5_collectBricks_12 : decode cX5_collectBricks 12 = .ok (.invokevirtual 58, 3) := by decide +kernel
theorem dX5_collectBricks_15 : decode cX5_collectBricks 15 = .ok (.if_icmp .ge 73, 3) := by decide +kernel
theorem dX5_collectBricks_18 : decode cX5_collectBricks 18 = .ok (.aload_n 0, 1) := by decide +kernel
theorem dX5_collectBricks_19 : decode cX5_collectBricks 19 = .ok (.getfield 26, 3) := by decide +kernel
theorem dX5_collectBricks_22 : decode cX5_collectBricks 22 = .ok (.iload_n 1, 1) := by decide +kernel
theorem dX5_collectBricks_23 : decode cX5_collectBricks 23 = .ok (.invokevirtual 64, 3) := by decide +kernel
theorem dX5_collectBricks_26 : decode cX5_collectBricks 26 = .ok (.ifCond .eq 56, 3) := by decide +kernel
theorem dX5_collectBricks_29 : decode cX5_collectBricks 29 = .ok (.aload_n 0, 1) := by decide +kernel
theorem dX5_collectBricks_30 : decode cX5_collectBricks 30 = .ok (.getfield 51, 3) := by decide +kernel
theorem dX5_collectBricks_33 : decode cX5_collectBricks 33 = .ok (.bipush 12, 2) := by decide +kernel
theorem dX5_collectBricks_35 : decode cX5_collectBricks 35 = .ok (.if_icmp .ge 47, 3) := by decide +kernel
theorem dX5_collectBricks_38 : decode cX5_collectBricks 38 = .ok (.aload_n 0, 1) := by decide +kernel
theorem dX5_collectBricks_39 : decode cX5_collectBricks 39 = .ok (.getfield 11, 3) := by decide +kernel
theorem dX5_collectBricks_42 : decode cX5_collectBricks 42 = .ok (.aload_n 0, 1) := by decide +kernel
theorem dX5_collectBricks_43 : decode cX5_collectBricks 43 = .ok (.getfield 51, 3) := by decide +kernel
theorem dX5_collectBricks_46 : decode cX5_collectBricks 46 = .ok (.iload_n 1, 1) := by decide +kernel
theorem dX5_collectBricks_47 : decode cX5_collectBricks 47 = .ok (.iastore, 1) := by decide +kernel
theorem dX5_collectBricks_48 : decode cX5_collectBricks 48 = .ok (.aload_n 0, 1) := by decide +kernel
theorem dX5_collectBricks_49 : decode cX5_collectBricks 49 = .ok (.getfield 15, 3) := by decide +kernel
theorem dX5_collectBricks_52 : decode cX5_collectBricks 52 = .ok (.aload_n 0, 1) := by decide +kernel
theorem dX5_collectBricks_53 : decode cX5_collectBricks 53 = .ok (.getfield 51, 3) := by decide +kernel
theorem dX5_collectBricks_56 : decode cX5_collectBricks 56 = .ok (.aload_n 0, 1) := by decide +kernel
theorem dX5_collectBricks_57 : decode cX5_collectBricks 57 = .ok (.getfield 26, 3) := by decide +kernel
theorem dX5_collectBricks_60 : decode cX5_collectBricks 60 = .ok (.iload_n 1, 1) := by decide +kernel
theorem dX5_collectBricks_61 : decode cX5_collectBricks 61 = .ok (.aload_n 0, 1) := by decide +kernel
theorem dX5_collectBricks_62 : decode cX5_collectBricks 62 = .ok (.getfield 26, 3) := by decide +kernel
theorem dX5_collectBricks_65 : decode cX5_collectBricks 65 = .ok (.invokevirtual 68, 3) := by decide +kernel
theorem dX5_collectBricks_68 : decode cX5_collectBricks 68 = .ok (.invokevirtual 72, 3) := by decide +kernel
theorem dX5_collectBricks_71 : decode cX5_collectBricks 71 = .ok (.lastore, 1) := by decide +kernel
theorem dX5_collectBricks_72 : decode cX5_collectBricks 72 = .ok (.aload_n 0, 1) := by decide +kernel
theorem dX5_collectBricks_73 : decode cX5_collectBricks 73 = .ok (.dup, 1) := by decide +kernel
theorem dX5_collectBricks_74 : decode cX5_collectBricks 74 = .ok (.getfield 51, 3) := by decide +kernel
theorem dX5_collectBricks_77 : decode cX5_collectBricks 77 = .ok (.iconst 1, 1) := by decide +kernel
theorem dX5_collectBricks_78 : decode cX5_collectBricks 78 = .ok (.iadd, 1) := by decide +kernel
theorem dX5_collectBricks_79 : decode cX5_collectBricks 79 = .ok (.putfield 51, 3) := by decide +kernel
theorem dX5_collectBricks_82 : decode cX5_collectBricks 82 = .ok (.iinc 1 1, 3) := by decide +kernel
theorem dX5_collectBricks_85 : decode cX5_collectBricks 85 = .ok (.goto (-78), 3) := by decide +kernel
theorem dX5_collectBricks_88 : decode cX5_collectBricks 88 = .ok (.return_, 1) := by decide +kernel
theorem dX5_goesOn_0 : decode cX5_goesOn 0 = .ok (.iload 4, 2) := by decide +kernel
theorem dX5_goesOn_2 : decode cX5_goesOn 2 = .ok (.aload_n 0, 1) := by decide +kernel
theorem dX5_goesOn_3 : decode cX5_goesOn 3 = .ok (.getfield 51, 3) := by decide +kernel
theorem dX5_goesOn_6 : decode cX5_goesOn 6 = .ok (.if_icmp .ge 10, 3) := by decide +kernel
theorem dX5_goesOn_9 : decode cX5_goesOn 9 = .ok (.iload 4, 2) := by decide +kernel
theorem dX5_goesOn_11 : decode cX5_goesOn 11 = .ok (.bipush 12, 2) := by decide +kernel
theorem dX5_goesOn_13 : decode cX5_goesOn 13 = .ok (.if_icmp .lt 5, 3) := by decide +kernel
theorem dX5_goesOn_16 : decode cX5_goesOn 16 = .ok (.iconst 1, 1) := by decide +kernel
theorem dX5_goesOn_17 : decode cX5_goesOn 17 = .ok (.ireturn, 1) := by decide +kernel
theorem dX5_goesOn_18 : decode cX5_goesOn 18 = .ok (.iconst 0, 1) := by decide +kernel
theorem dX5_goesOn_19 : decode cX5_goesOn 19 = .ok (.istore 5, 2) := by decide +kernel
theorem dX5_goesOn_21 : decode cX5_goesOn 21 = .ok (.iload 5, 2) := by decide +kernel
theorem dX5_goesOn_23 : decode cX5_goesOn 23 = .ok (.aload_n 0, 1) := by decide +kernel
theorem dX5_goesOn_24 : decode cX5_goesOn 24 = .ok (.getfield 51, 3) := by decide +kernel
theorem dX5_goesOn_27 : decode cX5_goesOn 27 = .ok (.if_icmp .ge 136, 3) := by decide +kernel
theorem dX5_goesOn_30 : decode cX5_goesOn 30 = .ok (.iload_n 1, 1) := by decide +kernel
theorem dX5_goesOn_31 : decode cX5_goesOn 31 = .ok (.iconst 1, 1) := by decide +kernel
theorem dX5_goesOn_32 : decode cX5_goesOn 32 = .ok (.iload 5, 2) := by decide +kernel
theorem dX5_goesOn_34 : decode cX5_goesOn 34 = .ok (.ishl, 1) := by decide +kernel
theorem dX5_goesOn_35 : decode cX5_goesOn 35 = .ok (.ior, 1) := by decide +kernel
theorem dX5_goesOn_36 : decode cX5_goesOn 36 = .ok (.istore 6, 2) := by decide +kernel
theorem dX5_goesOn_38 : decode cX5_goesOn 38 = .ok (.iload 6, 2) := by decide +kernel
theorem dX5_goesOn_40 : decode cX5_goesOn 40 = .ok (.iload_n 1, 1) := by decide +kernel
theorem dX5_goesOn_41 : decode cX5_goesOn 41 = .ok (.if_icmp .eq 116, 3) := by decide +kernel
theorem dX5_goesOn_44 : decode cX5_goesOn 44 = .ok (.iload 6, 2) := by decide +kernel
theorem dX5_goesOn_46 : decode cX5_goesOn 46 = .ok (.sipush 4096, 3) := by decide +kernel
theorem dX5_goesOn_49 : decode cX5_goesOn 49 = .ok (.if_icmp .ge 108, 3) := by decide +kernel
theorem dX5_goesOn_52 : decode cX5_goesOn 52 = .ok (.aload_n 0, 1) := by decide +kernel
theorem dX5_goesOn_53 : decode cX5_goesOn 53 = .ok (.getfield 22, 3) := by decide +kernel
theorem dX5_goesOn_56 : decode cX5_goesOn 56 = .ok (.iload 6, 2) := by decide +kernel
theorem dX5_goesOn_58 : decode cX5_goesOn 58 = .ok (.baload, 1) := by decide +kernel
theorem dX5_goesOn_59 : decode cX5_goesOn 59 = .ok (.ifCond .ne 98, 3) := by decide +kernel
theorem dX5_goesOn_62 : decode cX5_goesOn 62 = .ok (.aload_n 0, 1) := by decide +kernel
theorem dX5_goesOn_63 : decode cX5_goesOn 63 = .ok (.getfield 15, 3) := by decide +kernel
theorem dX5_goesOn_66 : decode cX5_goesOn 66 = .ok (.iload 5, 2) := by decide +kernel
theorem dX5_goesOn_68 : decode cX5_goesOn 68 = .ok (.laload, 1) := by decide +kernel
theorem dX5_goesOn_69 : decode cX5_goesOn 69 = .ok (.lload_n 2, 1) := by decide +kernel
theorem dX5_goesOn_70 : decode cX5_goesOn 70 = .ok (.land, 1) := by decide +kernel
theorem dX5_goesOn_71 : decode cX5_goesOn 71 = .ok (.lconst 0, 1) := by decide +kernel
theorem dX5_goesOn_72 : decode cX5_goesOn 72 = .ok (.lcmp, 1) := by decide +kernel
theorem dX5_goesOn_73 : decode cX5_goesOn 73 = .ok (.ifCond .eq 6, 3) := by decide +kernel
theorem dX5_goesOn_76 : decode cX5_goesOn 76 = .ok (.goto 81, 3) := by decide +kernel
theorem dX5_goesOn_79 : decode cX5_goesOn 79 = .ok (.lload_n 2, 1) := by decide +kernel
theorem dX5_goesOn_80 : decode cX5_goesOn 80 = .ok (.lconst 1, 1) := by decide +kernel
theorem dX5_goesOn_81 : decode cX5_goesOn 81 = .ok (.aload_n 0, 1) := by decide +kernel
theorem dX5_goesOn_82 : decode cX5_goesOn 82 = .ok (.getfield 11, 3) := by decide +kernel
theorem dX5_goesOn_85 : decode cX5_goesOn 85 = .ok (.iload 5, 2) := by decide +kernel
theorem dX5_goesOn_87 : decode cX5_goesOn 87 = .ok (.iaload, 1) := by decide +kernel
theorem dX5_goesOn_88 : decode cX5_goesOn 88 = .ok (.lshl, 1) := by decide +kernel
theorem dX5_goesOn_89 : decode cX5_goesOn 89 = .ok (.lor, 1) := by decide +kernel
theorem dX5_goesOn_90 : decode cX5_goesOn 90 = .ok (.lstore 7, 2) := by decide +kernel
theorem dX5_goesOn_92 : decode cX5_goesOn 92 = .ok (.aload_n 0, 1) := by decide +kernel
theorem dX5_goesOn_93 : decode cX5_goesOn 93 = .ok (.getfield 19, 3) := by decide +kernel
theorem dX5_goesOn_96 : decode cX5_goesOn 96 = .ok (.iload 4, 2) := by decide +kernel
theorem dX5_goesOn_98 : decode cX5_goesOn 98 = .ok (.aload_n 0, 1) := by decide +kernel
theorem dX5_goesOn_99 : decode cX5_goesOn 99 = .ok (.getfield 11, 3) := by decide +kernel
theorem dX5_goesOn_102 : decode cX5_goesOn 102 = .ok (.iload 5, 2) := by decide +kernel
theorem dX5_goesOn_104 : decode cX5_goesOn 104 = .ok (.iaload, 1) := by decide +kernel
theorem dX5_goesOn_105 : decode cX5_goesOn 105 = .ok (.iastore, 1) := by decide +kernel
theorem dX5_goesOn_106 : decode cX5_goesOn 106 = .ok (.aload_n 0, 1) := by decide +kernel
theorem dX5_goesOn_107 : decode cX5_goesOn 107 = .ok (.getfield 30, 3) := by decide +kernel
theorem dX5_goesOn_110 : decode cX5_goesOn 110 = .ok (.aload_n 0, 1) := by decide +kernel
theorem dX5_goesOn_111 : decode cX5_goesOn 111 = .ok (.getfield 30, 3) := by decide +kernel
theorem dX5_goesOn_114 : decode cX5_goesOn 114 = .ok (.aload_n 0, 1) := by decide +kernel
theorem dX5_goesOn_115 : decode cX5_goesOn 115 = .ok (.getfield 11, 3) := by decide +kernel
theorem dX5_goesOn_118 : decode cX5_goesOn 118 = .ok (.iload 5, 2) := by decide +kernel
theorem dX5_goesOn_120 : decode cX5_goesOn 120 = .ok (.iaload, 1) := by decide +kernel
theorem dX5_goesOn_121 : decode cX5_goesOn 121 = .ok (.lload 7, 2) := by decide +kernel
theorem dX5_goesOn_123 : decode cX5_goesOn 123 = .ok (.invokevirtual 76, 3) := by decide +kernel
theorem dX5_goesOn_126 : decode cX5_goesOn 126 = .ok (.invokevirtual 79, 3) := by decide +kernel
theorem dX5_goesOn_129 : decode cX5_goesOn 129 = .ok (.ifCond .eq 20, 3) := by decide +kernel
theorem dX5_goesOn_132 : decode cX5_goesOn 132 = .ok (.aload_n 0, 1) := by decide +kernel
theorem dX5_goesOn_133 : decode cX5_goesOn 133 = .ok (.iload 6, 2) := by decide +kernel
theorem dX5_goesOn_135 : decode cX5_goesOn 135 = .ok (.lload 7, 2) := by decide +kernel
theorem dX5_goesOn_137 : decode cX5_goesOn 137 = .ok (.iload 4, 2) := by decide +kernel
theorem dX5_goesOn_139 : decode cX5_goesOn 139 = .ok (.iconst 1, 1) := by decide +kernel
theorem dX5_goesOn_140 : decode cX5_goesOn 140 = .ok (.iadd, 1) := by decide +kernel
theorem dX5_goesOn_141 : decode cX5_goesOn 141 = .ok (.invokevirtual 54, 3) := by decide +kernel
theorem dX5_goesOn_144 : decode cX5_goesOn 144 = .ok (.ifCond .eq 5, 3) := by decide +kernel
theorem dX5_goesOn_147 : decode cX5_goesOn 147 = .ok (.iconst 1, 1) := by decide +kernel
theorem dX5_goesOn_148 : decode cX5_goesOn 148 = .ok (.ireturn, 1) := by decide +kernel
theorem dX5_goesOn_149 : decode cX5_goesOn 149 = .ok (.aload_n 0, 1) := by decide +kernel
theorem dX5_goesOn_150 : decode cX5_goesOn 150 = .ok (.getfield 22, 3) := by decide +kernel
theorem dX5_goesOn_153 : decode cX5_goesOn 153 = .ok (.iload 6, 2) := by decide +kernel
theorem dX5_goesOn_155 : decode cX5_goesOn 155 = .ok (.iconst 1, 1) := by decide +kernel
theorem dX5_goesOn_156 : decode cX5_goesOn 156 = .ok (.bastore, 1) := by decide +kernel
theorem dX5_goesOn_157 : decode cX5_goesOn 157 = .ok (.iinc 5 1, 3) := by decide +kernel
theorem dX5_goesOn_160 : decode cX5_goesOn 160 = .ok (.goto (-139), 3) := by decide +kernel
theorem dX5_goesOn_163 : decode cX5_goesOn 163 = .ok (.iconst 0, 1) := by decide +kernel
theorem dX5_goesOn_164 : decode cX5_goesOn 164 = .ok (.ireturn, 1) := by decide +kernel
theorem dX6_init_0 : decode cX6_init 0 = .ok (.aload_n 0, 1) := by decide +kernel
theorem dX6_init_1 : decode cX6_init 1 = .ok (.invokespecial 1, 3) := by decide +kernel
theorem dX6_init_4 : decode cX6_init 4 = .ok (.new 7, 3) := by decide +kernel
theorem dX6_init_7 : decode cX6_init 7 = .ok (.dup, 1) := by decide +kernel
theorem dX6_init_8 : decode cX6_init 8 = .ok (.invokespecial 9, 3) := by decide +kernel
theorem dX6_init_11 : decode cX6_init 11 = .ok (.astore_n 1, 1) := by decide +kernel
theorem dX6_init_12 : decode cX6_init 12 = .ok (.new 10, 3) := by decide +kernel
theorem dX6_init_15 : decode cX6_init 15 = .ok (.dup, 1) := by decide +kernel
theorem dX6_init_16 : decode cX6_init 16 = .ok (.invokespecial 12, 3) := by decide +kernel
theorem dX6_init_19 : decode cX6_init 19 = .ok (.astore_n 2, 1) := by decide +kernel
theorem dX6_init_20 : decode cX6_init 20 = .ok (.new 13, 3) := by decide +kernel
theorem dX6_init_23 : decode cX6_init 23 = .ok (.dup, 1) := by decide +kernel
theorem dX6_init_24 : decode cX6_init 24 = .ok (.aload_n 2, 1) := by decide +kernel
theorem dX6_init_25 : decode cX6_init 25 = .ok (.invokespecial 15, 3) := by decide +kernel
theorem dX6_init_28 : decode cX6_init 28 = .ok (.astore_n 3, 1) := by decide +kernel
theorem dX6_init_29 : decode cX6_init 29 = .ok (.aload_n 0, 1) := by decide +kernel
theorem dX6_init_30 : decode cX6_init 30 = .ok (.aload_n 1, 1) := by decide +kernel
theorem dX6_init_31 : decode cX6_init 31 = .ok (.putfield 18, 3) := by decide +kernel
theorem dX6_init_34 : decode cX6_init 34 = .ok (.aload_n 0, 1) := by decide +kernel
theorem dX6_init_35 : decode cX6_init 35 = .ok (.aload_n 2, 1) := by decide +kernel
theorem dX6_init_36 : decode cX6_init 36 = .ok (.putfield 24, 3) := by decide +kernel
theorem dX6_init_39 : decode cX6_init 39 = .ok (.aload_n 0, 1) := by decide +kernel
theorem dX6_init_40 : decode cX6_init 40 = .ok (.aload_n 3, 1) := by decide +kernel
theorem dX6_init_41 : decode cX6_init 41 = .ok (.putfield 28, 3) := by decide +kernel
theorem dX6_init_44 : decode cX6_init 44 = .ok (.aload_n 0, 1) := by decide +kernel
theorem dX6_init_45 : decode cX6_init 45 = .ok (.new 32, 3) := by decide +kernel
theorem dX6_init_48 : decode cX6_init 48 = .ok (.dup, 1) := by decide +kernel
theorem dX6_init_49 : decode cX6_init 49 = .ok (.aload_n 1, 1) := by decide +kernel
theorem dX6_init_50 : decode cX6_init 50 = .ok (.aload_n 2, 1) := by decide +kernel
theorem dX6_init_51 : decode cX6_init 51 = .ok (.invokespecial 34, 3) := by decide +kernel
theorem dX6_init_54 : decode cX6_init 54 = .ok (.putfield 37, 3) := by decide +kernel
theorem dX6_init_57 : decode cX6_init 57 = .ok (.aload_n 0, 1) := by decide +kernel
theorem dX6_init_58 : decode cX6_init 58 = .ok (.new 41, 3) := by decide +kernel
theorem dX6_init_61 : decode cX6_init 61 = .ok (.dup, 1) := by decide +kernel
theorem dX6_init_62 : decode cX6_init 62 = .ok (.aload_n 2, 1) := by decide +kernel
theorem dX6_init_63 : decode cX6_init 63 = .ok (.aload_n 3, 1) := by decide +kernel
theorem dX6_init_64 : decode cX6_init 64 = .ok (.invokespecial 43, 3) := by decide +kernel
theorem dX6_init_67 : decode cX6_init 67 = .ok (.putfield 46, 3) := by decide +kernel
theorem dX6_init_70 : decode cX6_init 70 = .ok (.aload_n 0, 1) := by decide +kernel
theorem dX6_init_71 : decode cX6_init 71 = .ok (.new 50, 3) := by decide +kernel
theorem dX6_init_74 : decode cX6_init 74 = .ok (.dup, 1) := by decide +kernel
theorem dX6_init_75 : decode cX6_init 75 = .ok (.aload_n 2, 1) := by decide +kernel
theorem dX6_init_76 : decode cX6_init 76 = .ok (.invokespecial 52, 3) := by decide +kernel
theorem dX6_init_79 : decode cX6_init 79 = .ok (.putfield 53, 3) := by decide +kernel
theorem dX6_init_82 : decode cX6_init 82 = .ok (.aload_n 0, 1) := by decide +kernel
theorem dX6_init_83 : decode cX6_init 83 = .ok (.bipush 7, 2) := by decide +kernel
theorem dX6_init_85 : decode cX6_init 85 = .ok (.newarray .int, 2) := by decide +kernel
theorem dX6_init_87 : decode cX6_init 87 = .ok (.putfield 57, 3) := by decide +kernel
theorem dX6_init_90 : decode cX6_init 90 = .ok (.return_, 1) := by decide +kernel
theorem dX6_cell_0 : decode cX6_cell 0 = .ok (.iload_n 1, 1) := by decide +kernel
theorem dX6_cell_1 : decode cX6_cell 1 = .ok (.iload_n 2, 1) := by decide +kernel
theorem dX6_cell_2 : decode cX6_cell 2 = .ok (.iload_n 3, 1) := by decide +kernel
theorem dX6_cell_3 : decode cX6_cell 3 = .ok (.invokestatic 61, 3) := by decide +kernel
theorem dX6_cell_6 : decode cX6_cell 6 = .ok (.ifCond .eq 14, 3) := by decide +kernel
theorem dX6_cell_9 : decode cX6_cell 9 = .ok (.iload 4, 2) := by decide +kernel
theorem dX6_cell_11 : decode cX6_cell 11 = .ok (.ifCond .lt 9, 3) := by decide +kernel
theorem dX6_cell_14 : decode cX6_cell 14 = .ok (.iload 4, 2) := by decide +kernel
theorem dX6_cell_16 : decode cX6_cell 16 = .ok (.iconst 5, 1) := by decide +kernel
theorem dX6_cell_17 : decode cX6_cell 17 = .ok (.if_icmp .le 9, 3) := by decide +kernel
theorem dX6_cell_20 : decode cX6_cell 20 = .ok (.aload_n 0, 1) := by decide +kernel
theorem dX6_cell_21 : decode cX6_cell 21 = .ok (.iconst (-1), 1) := by decide +kernel
theorem dX6_cell_22 : decode cX6_cell 22 = .ok (.invokevirtual 65, 3) := by decide +kernel
theorem dX6_cell_25 : decode cX6_cell 25 = .ok (.ireturn, 1) := by decide +kernel
theorem dX6_cell_26 : decode cX6_cell 26 = .ok (.aload_n 0, 1) := by decide +kernel
theorem dX6_cell_27 : decode cX6_cell 27 = .ok (.invokevirtual 69, 3) := by decide +kernel
theorem dX6_cell_30 : decode cX6_cell 30 = .ok (.aload_n 0, 1) := by decide +kernel
theorem dX6_cell_31 : decode cX6_cell 31 = .ok (.getfield 18, 3) := by decide +kernel
theorem dX6_cell_34 : decode cX6_cell 34 = .ok (.iload_n 1, 1) := by decide +kernel
theorem dX6_cell_35 : decode cX6_cell 35 = .ok (.iload_n 2, 1) := by decide +kernel
theorem dX6_cell_36 : decode cX6_cell 36 = .ok (.iload_n 3, 1) := by decide +kernel
theorem dX6_cell_37 : decode cX6_cell 37 = .ok (.iload 4, 2) := by decide +kernel
theorem dX6_cell_39 : decode cX6_cell 39 = .ok (.invokevirtual 72, 3) := by decide +kernel
theorem dX6_cell_42 : decode cX6_cell 42 = .ok (.ireturn, 1) := by decide +kernel
theorem dX6_cellOf_0 : decode cX6_cellOf 0 = .ok (.iload_n 1, 1) := by decide +kernel
theorem dX6_cellOf_1 : decode cX6_cellOf 1 = .ok (.iload_n 2, 1) := by decide +kernel
theorem dX6_cellOf_2 : decode cX6_cellOf 2 = .ok (.iload_n 3, 1) := by decide +kernel
theorem dX6_cellOf_3 : decode cX6_cellOf 3 = .ok (.invokestatic 61, 3) := by decide +kernel
theorem dX6_cellOf_6 : decode cX6_cellOf 6 = .ok (.ifCond .eq 16, 3) := by decide +kernel
theorem dX6_cellOf_9 : decode cX6_cellOf 9 = .ok (.aload_n 0, 1) := by decide +kernel
theorem dX6_cellOf_10 : decode cX6_cellOf 10 = .ok (.getfield 18, 3) := by decide +kernel
theorem dX6_cellOf_13 : decode cX6_cellOf 13 = .ok (.iload_n 1, 1) := by decide +kernel
theorem dX6_cellOf_14 : decode cX6_cellOf 14 = .ok (.iload_n 2, 1) := by decide +kernel
theorem dX6_cellOf_15 : decode cX6_cellOf 15 = .ok (.iload_n 3, 1) := by decide +kernel
theorem dX6_cellOf_16 : decode cX6_cellOf 16 = .ok (.invokevirtual 76, 3) := by decide +kernel
theorem dX6_cellOf_19 : decode cX6_cellOf 19 = .ok (.goto 8, 3) := by decide +kernel
theorem dX6_cellOf_22 : decode cX6_cellOf 22 = .ok (.aload_n 0, 1) := by decide +kernel
theorem dX6_cellOf_23 : decode cX6_cellOf 23 = .ok (.iconst (-1), 1) := by decide +kernel
theorem dX6_cellOf_24 : decode cX6_cellOf 24 = .ok (.invokevirtual 65, 3) := by decide +kernel
theorem dX6_cellOf_27 : decode cX6_cellOf 27 = .ok (.ireturn, 1) := by decide +kernel
theorem dX6_inner_0 : decode cX6_inner 0 = .ok (.aload_n 0, 1) := by decide +kernel
theorem dX6_inner_1 : decode cX6_inner 1 = .ok (.getfield 18, 3) := by decide +kernel
theorem dX6_inner_4 : decode cX6_inner 4 = .ok (.invokevirtual 80, 3) := by decide +kernel
theorem dX6_inner_7 : decode cX6_inner 7 = .ok (.ireturn, 1) := by decide +kernel
theorem dX6_place_0 : decode cX6_place 0 = .ok (.iload_n 1, 1) := by decide +kernel
theorem dX6_place_1 : decode cX6_place 1 = .ok (.invokestatic 84, 3) := by decide +kernel
theorem dX6_place_4 : decode cX6_place 4 = .ok (.ifCond .eq 31, 3) := by decide +kernel
theorem dX6_place_7 : decode cX6_place 7 = .ok (.iload_n 2, 1) := by decide +kernel
theorem dX6_place_8 : decode cX6_place 8 = .ok (.ifCond .lt 27, 3) := by decide +kernel
theorem dX6_place_11 : decode cX6_place 11 = .ok (.iload_n 2, 1) := by decide +kernel
theorem dX6_place_12 : decode cX6_place 12 = .ok (.iconst 1, 1) := by decide +kernel
theorem dX6_place_13 : decode cX6_place 13 = .ok (.if_icmp .gt 22, 3) := by decide +kernel
theorem dX6_place_16 : decode cX6_place 16 = .ok (.iload 6, 2) := by decide +kernel
theorem dX6_place_18 : decode cX6_place 18 = .ok (.invokestatic 88, 3) := by decide +kernel
theorem dX6_place_21 : decode cX6_place 21 = .ok (.ifCond .eq 14, 3) := by decide +kernel
theorem dX6_place_24 : decode cX6_place 24 = .ok (.iload_n 3, 1) := by decide +kernel
theorem dX6_place_25 : decode cX6_place 25 = .ok (.iload 4, 2) := by decide +kernel
theorem dX6_place_27 : decode cX6_place 27 = .ok (.iload 5, 2) := by decide +kernel
theorem dX6_place_29 : decode cX6_place 29 = .ok (.invokestatic 61, 3) := by decide +kernel
theorem dX6_place_32 : decode cX6_place 32 = .ok (.ifCond .ne 9, 3) := by decide +kernel
theorem dX6_place_35 : decode cX6_place 35 = .ok (.aload_n 0, 1) := by decide +kernel
theorem dX6_place_36 : decode cX6_place 36 = .ok (.iconst (-1), 1) := by decide +kernel
theorem dX6_place_37 : decode cX6_place 37 = .ok (.invokevirtual 65, 3) := by decide +kernel
theorem dX6_place_40 : decode cX6_place 40 = .ok (.ireturn, 1) := by decide +kernel
theorem dX6_place_41 : decode cX6_place 41 = .ok (.iload_n 3, 1) := by decide +kernel
theorem dX6_place_42 : decode cX6_place 42 = .ok (.iload_n 1, 1) := by decide +kernel
theorem dX6_place_43 : decode cX6_place 43 = .ok (.iload_n 2, 1) := by decide +kernel
theorem dX6_place_44 : decode cX6_place 44 = .ok (.invokestatic 91, 3) := by decide +kernel
theorem dX6_place_47 : decode cX6_place 47 = .ok (.iadd, 1) := by decide +kernel
theorem dX6_place_48 : decode cX6_place 48 = .ok (.bipush 6, 2) := by decide +kernel
theorem dX6_place_50 : decode cX6_place 50 = .ok (.if_icmp .gt 16, 3) := by decide +kernel
theorem dX6_place_53 : decode cX6_place 53 = .ok (.iload 4, 2) := by decide +kernel
theorem dX6_place_55 : decode cX6_place 55 = .ok (.iload_n 1, 1) := by decide +kernel
theorem dX6_place_56 : decode cX6_place 56 = .ok (.iload_n 2, 1) := by decide +kernel
theorem dX6_place_57 : decode cX6_place 57 = .ok (.invokestatic 95, 3) := by decide +kernel
theorem dX6_place_60 : decode cX6_place 60 = .ok (.iadd, 1) := by decide +kernel
theorem dX6_place_61 : decode cX6_place 61 = .ok (.bipush 6, 2) := by decide +kernel
theorem dX6_place_63 : decode cX6_place 63 = .ok (.if_icmp .le 10, 3) := by decide +kernel
theorem dX6_place_66 : decode cX6_place 66 = .ok (.aload_n 0, 1) := by decide +kernel
theorem dX6_place_67 : decode cX6_place 67 = .ok (.bipush (-6), 2) := by decide +kernel
theorem dX6_place_69 : decode cX6_place 69 = .ok (.invokevirtual 65, 3) := by decide +kernel
theorem dX6_place_72 : decode cX6_place 72 = .ok (.ireturn, 1) := by decide +kernel
theorem dX6_place_73 : decode cX6_place 73 = .ok (.aload_n 0, 1) := by decide +kernel
theorem dX6_place_74 : decode cX6_place 74 = .ok (.getfield 24, 3) := by decide +kernel
theorem dX6_place_77 : decode cX6_place 77 = .ok (.iload_n 1, 1) := by decide +kernel
theorem dX6_place_78 : decode cX6_place 78 = .ok (.iload_n 2, 1) := by decide +kernel
theorem dX6_place_79 : decode cX6_place 79 = .ok (.iload_n 3, 1) := by decide +kernel
theorem dX6_place_80 : decode cX6_place 80 = .ok (.iload 4, 2) := by decide +kernel
theorem dX6_place_82 : decode cX6_place 82 = .ok (.invokestatic 98, 3) := by decide +kernel
theorem dX6_place_85 : decode cX6_place 85 = .ok (.iload 5, 2) := by decide +kernel
theorem dX6_place_87 : decode cX6_place 87 = .ok (.invokevirtual 102, 3) := by decide +kernel
theorem dX6_place_90 : decode cX6_place 90 = .ok (.ifCond .eq 10, 3) := by decide +kernel
theorem dX6_place_93 : decode cX6_place 93 = .ok (.aload_n 0, 1) := by decide +kernel
theorem dX6_place_94 : decode cX6_place 94 = .ok (.bipush (-3), 2) := by decide +kernel
theorem dX6_place_96 : decode cX6_place 96 = .ok (.invokevirtual 65, 3) := by decide +kernel
theorem dX6_place_99 : decode cX6_place 99 = .ok (.ireturn, 1) := by decide +kernel
theorem dX6_place_100 : decode cX6_place 100 = .ok (.aload_n 0, 1) := by decide +kernel
theorem dX6_place_101 : decode cX6_place 101 = .ok (.getfield 24, 3) := by decide +kernel
theorem dX6_place_104 : decode cX6_place 104 = .ok (.invokevirtual 106, 3) := by decide +kernel
theorem dX6_place_107 : decode cX6_place 107 = .ok (.bipush 40, 2) := by decide +kernel
theorem dX6_place_109 : decode cX6_place 109 = .ok (.if_icmp .lt 10, 3) := by decide +kernel
theorem dX6_place_112 : decode cX6_place 112 = .ok (.aload_n 0, 1) := by decide +kernel
theorem dX6_place_113 : decode cX6_place 113 = .ok (.bipush (-6), 2) := by decide +kernel
theorem dX6_place_115 : decode cX6_place 115 = .ok (.invokevirtual 65, 3) := by decide +kernel
theorem dX6_place_118 : decode cX6_place 118 = .ok (.ireturn, 1) := by decide +kernel
theorem dX6_place_119 : decode cX6_place 119 = .ok (.aload_n 0, 1) := by decide +kernel
theorem dX6_place_120 : decode cX6_place 120 = .ok (.invokevirtual 69, 3) := by decide +kernel
theorem dX6_place_123 : decode cX6_place 123 = .ok (.aload_n 0, 1) := by decide +kernel
theorem dX6_place_124 : decode cX6_place 124 = .ok (.getfield 24, 3) := by decide +kernel
theorem dX6_place_127 : decode cX6_place 127 = .ok (.iload_n 1, 1) := by decide +kernel
theorem dX6_place_128 : decode cX6_place 128 = .ok (.iload_n 2, 1) := by decide +kernel
theorem dX6_place_129 : decode cX6_place 129 = .ok (.iload_n 3, 1) := by decide +kernel
theorem dX6_place_130 : decode cX6_place 130 = .ok (.iload 4, 2) := by decide +kernel
theorem dX6_place_132 : decode cX6_place 132 = .ok (.iload 5, 2) := by decide +kernel
theorem dX6_place_134 : decode cX6_place 134 = .ok (.iload 6, 2) := by decide +kernel
theorem dX6_place_136 : decode cX6_place 136 = .ok (.invokevirtual 109, 3) := by decide +kernel
theorem dX6_place_139 : decode cX6_place 139 = .ok (.ireturn, 1) := by decide +kernel
theorem dX6_take_0 : decode cX6_take 0 = .ok (.aload_n 0, 1) := by decide +kernel
theorem dX6_take_1 : decode cX6_take 1 = .ok (.iload_n 1, 1) := by decide +kernel
theorem dX6_take_2 : decode cX6_take 2 = .ok (.invokevirtual 113, 3) := by decide +kernel
theorem dX6_take_5 : decode cX6_take 5 = .ok (.istore_n 2, 1) := by decide +kernel
theorem dX6_take_6 : decode cX6_take 6 = .ok (.iload_n 2, 1) := by decide +kernel
theorem dX6_take_7 : decode cX6_take 7 = .ok (.ifCond .eq 9, 3) := by decide +kernel
theorem dX6_take_10 : decode cX6_take 10 = .ok (.aload_n 0, 1) := by decide +kernel
theorem dX6_take_11 : decode cX6_take 11 = .ok (.iload_n 2, 1) := by decide +kernel
theorem dX6_take_12 : decode cX6_take 12 = .ok (.invokevirtual 65, 3) := by decide +kernel
theorem dX6_take_15 : decode cX6_take 15 = .ok (.ireturn, 1) := by decide +kernel
theorem dX6_take_16 : decode cX6_take 16 = .ok (.aload_n 0, 1) := by decide +kernel
theorem dX6_take_17 : decode cX6_take 17 = .ok (.invokevirtual 69, 3) := by decide +kernel
theorem dX6_take_20 : decode cX6_take 20 = .ok (.aload_n 0, 1) := by decide +kernel
theorem dX6_take_21 : decode cX6_take 21 = .ok (.getfield 24, 3) := by decide +kernel
theorem dX6_take_24 : decode cX6_take 24 = .ok (.iload_n 1, 1) := by decide +kernel
theorem dX6_take_25 : decode cX6_take 25 = .ok (.invokevirtual 116, 3) := by decide +kernel
theorem dX6_take_28 : decode cX6_take 28 = .ok (.iconst 1, 1) := by decide +kernel
theorem dX6_take_29 : decode cX6_take 29 = .ok (.ireturn, 1) := by decide +kernel
theorem dX6_at_0 : decode cX6_at 0 = .ok (.iload_n 1, 1) := by decide +kernel
theorem dX6_at_1 : decode cX6_at 1 = .ok (.iload_n 2, 1) := by decide +kernel
theorem dX6_at_2 : decode cX6_at 2 = .ok (.iload_n 3, 1) := by decide +kernel
theorem dX6_at_3 : decode cX6_at 3 = .ok (.invokestatic 61, 3) := by decide +kernel
theorem dX6_at_6 : decode cX6_at 6 = .ok (.ifCond .ne 9, 3) := by decide +kernel
theorem dX6_at_9 : decode cX6_at 9 = .ok (.aload_n 0, 1) := by decide +kernel
theorem dX6_at_10 : decode cX6_at 10 = .ok (.iconst (-1), 1) := by decide +kernel
theorem dX6_at_11 : decode cX6_at 11 = .ok (.invokevirtual 65, 3) := by decide +kernel
theorem dX6_at_14 : decode cX6_at 14 = .ok (.ireturn, 1) := by decide +kernel
theorem dX6_at_15 : decode cX6_at 15 = .ok (.aload_n 0, 1) := by decide +kernel
theorem dX6_at_16 : decode cX6_at 16 = .ok (.getfield 24, 3) := by decide +kernel
theorem dX6_at_19 : decode cX6_at 19 = .ok (.iload_n 1, 1) := by decide +kernel
theorem dX6_at_20 : decode cX6_at 20 = .ok (.iload_n 2, 1) := by decide +kernel
theorem dX6_at_21 : decode cX6_at 21 = .ok (.iload_n 3, 1) := by decide +kernel
theorem dX6_at_22 : decode cX6_at 22 = .ok (.invokevirtual 120, 3) := by decide +kernel
theorem dX6_at_25 : decode cX6_at 25 = .ok (.istore 4, 2) := by decide +kernel
theorem dX6_at_27 : decode cX6_at 27 = .ok (.iload 4, 2) := by decide +kernel
theorem dX6_at_29 : decode cX6_at 29 = .ok (.iconst (-1), 1) := by decide +kernel
theorem dX6_at_30 : decode cX6_at 30 = .ok (.if_icmp .ne 8, 3) := by decide +kernel
theorem dX6_at_33 : decode cX6_at 33 = .ok (.bipush (-9), 2) := by decide +kernel
theorem dX6_at_35 : decode cX6_at 35 = .ok (.goto 5, 3) := by decide +kernel
theorem dX6_at_38 : decode cX6_at 38 = .ok (.iload 4, 2) := by decide +kernel
theorem dX6_at_40 : decode cX6_at 40 = .ok (.ireturn, 1) := by decide +kernel
theorem dX6_studs_0 : decode cX6_studs 0 = .ok (.aload_n 0, 1) := by decide +kernel
theorem dX6_studs_1 : decode cX6_studs 1 = .ok (.getfield 24, 3) := by decide +kernel
theorem dX6_studs_4 : decode cX6_studs 4 = .ok (.iload_n 1, 1) := by decide +kernel
theorem dX6_studs_5 : decode cX6_studs 5 = .ok (.invokevirtual 123, 3) := by decide +kernel
theorem dX6_studs_8 : decode cX6_studs 8 = .ok (.ifCond .eq 19, 3) := by decide +kernel
theorem dX6_studs_11 : decode cX6_studs 11 = .ok (.aload_n 0, 1) := by decide +kernel
theorem dX6_studs_12 : decode cX6_studs 12 = .ok (.getfield 24, 3) := by decide +kernel
theorem dX6_studs_15 : decode cX6_studs 15 = .ok (.iload_n 2, 1) := by decide +kernel
theorem dX6_studs_16 : decode cX6_studs 16 = .ok (.invokevirtual 123, 3) := by decide +kernel
theorem dX6_studs_19 : decode cX6_studs 19 = .ok (.ifCond .eq 8, 3) := by decide +kernel
theorem dX6_studs_22 : decode cX6_studs 22 = .ok (.iload_n 1, 1) := by decide +kernel
theorem dX6_studs_23 : decode cX6_studs 23 = .ok (.iload_n 2, 1) := by decide +kernel
theorem dX6_studs_24 : decode cX6_studs 24 = .ok (.if_icmp .ne 9, 3) := by decide +kernel
theorem dX6_studs_27 : decode cX6_studs 27 = .ok (.aload_n 0, 1) := by decide +kernel
theorem dX6_studs_28 : decode cX6_studs 28 = .ok (.iconst (-1), 1) := by decide +kernel
theorem dX6_studs_29 : decode cX6_studs 29 = .ok (.invokevirtual 65, 3) := by decide +kernel
theorem dX6_studs_32 : decode cX6_studs 32 = .ok (.ireturn, 1) := by decide +kernel
theorem dX6_studs_33 : decode cX6_studs 33 = .ok (.aload_n 0, 1) := by decide +kernel
theorem dX6_studs_34 : decode cX6_studs 34 = .ok (.getfield 24, 3) := by decide +kernel
theorem dX6_studs_37 : decode cX6_studs 37 = .ok (.iload_n 1, 1) := by decide +kernel
theorem dX6_studs_38 : decode cX6_studs 38 = .ok (.invokevirtual 126, 3) := by decide +kernel
theorem dX6_studs_41 : decode cX6_studs 41 = .ok (.ifCond .eq 14, 3) := by decide +kernel
theorem dX6_studs_44 : decode cX6_studs 44 = .ok (.aload_n 0, 1) := by decide +kernel
theorem dX6_studs_45 : decode cX6_studs 45 = .ok (.getfield 24, 3) := by decide +kernel
theorem dX6_studs_48 : decode cX6_studs 48 = .ok (.iload_n 2, 1) := by decide +kernel
theorem dX6_studs_49 : decode cX6_studs 49 = .ok (.invokevirtual 126, 3) := by decide +kernel
theorem dX6_studs_52 : decode cX6_studs 52 = .ok (.ifCond .ne 10, 3) := by decide +kernel
theorem dX6_studs_55 : decode cX6_studs 55 = .ok (.aload_n 0, 1) := by decide +kernel
theorem dX6_studs_56 : decode cX6_studs 56 = .ok (.bipush (-3), 2) := by decide +kernel
theorem dX6_studs_58 : decode cX6_studs 58 = .ok (.invokevirtual 65, 3) := by decide +kernel
theorem dX6_studs_61 : decode cX6_studs 61 = .ok (.ireturn, 1) := by decide +kernel
theorem dX6_studs_62 : decode cX6_studs 62 = .ok (.aload_n 0, 1) := by decide +kernel
theorem dX6_studs_63 : decode cX6_studs 63 = .ok (.getfield 24, 3) := by decide +kernel
theorem dX6_studs_66 : decode cX6_studs 66 = .ok (.iload_n 1, 1) := by decide +kernel
theorem dX6_studs_67 : decode cX6_studs 67 = .ok (.iload_n 2, 1) := by decide +kernel
theorem dX6_studs_68 : decode cX6_studs 68 = .ok (.invokevirtual 129, 3) := by decide +kernel
theorem dX6_studs_71 : decode cX6_studs 71 = .ok (.ireturn, 1) := by decide +kernel
theorem dX6_pieces_0 : decode cX6_pieces 0 = .ok (.aload_n 0, 1) := by decide +kernel
theorem dX6_pieces_1 : decode cX6_pieces 1 = .ok (.getfield 28, 3) := by decide +kernel
theorem dX6_pieces_4 : decode cX6_pieces 4 = .ok (.invokevirtual 132, 3) := by decide +kernel
theorem dX6_pieces_7 : decode cX6_pieces 7 = .ok (.ireturn, 1) := by decide +kernel
theorem dX6_piece_0 : decode cX6_piece 0 = .ok (.aload_n 0, 1) := by decide +kernel
theorem dX6_piece_1 : decode cX6_piece 1 = .ok (.iload_n 1, 1) := by decide +kernel
theorem dX6_piece_2 : decode cX6_piece 2 = .ok (.invokevirtual 113, 3) := by decide +kernel
theorem dX6_piece_5 : decode cX6_piece 5 = .ok (.istore_n 2, 1) := by decide +kernel
theorem dX6_piece_6 : decode cX6_piece 6 = .ok (.iload_n 2, 1) := by decide +kernel
theorem dX6_piece_7 : decode cX6_piece 7 = .ok (.ifCond .eq 11, 3) := by decide +kernel
theorem dX6_piece_10 : decode cX6_piece 10 = .ok (.aload_n 0, 1) := by decide +kernel
theorem dX6_piece_11 : decode cX6_piece 11 = .ok (.iload_n 2, 1) := by decide +kernel
theorem dX6_piece_12 : decode cX6_piece 12 = .ok (.invokevirtual 65, 3) := by decide +kernel
theorem dX6_piece_15 : decode cX6_piece 15 = .ok (.goto 11, 3) := by decide +kernel
theorem dX6_piece_18 : decode cX6_piece 18 = .ok (.aload_n 0, 1) := by decide +kernel
theorem dX6_piece_19 : decode cX6_piece 19 = .ok (.getfield 28, 3) := by decide +kernel
theorem dX6_piece_22 : decode cX6_piece 22 = .ok (.iload_n 1, 1) := by decide +kernel
theorem dX6_piece_23 : decode cX6_piece 23 = .ok (.invokevirtual 135, 3) := by decide +kernel
theorem dX6_piece_26 : decode cX6_piece 26 = .ok (.ireturn, 1) := by decide +kernel
theorem dX6_pieceOf_0 : decode cX6_pieceOf 0 = .ok (.aload_n 0, 1) := by decide +kernel
theorem dX6_pieceOf_1 : decode cX6_pieceOf 1 = .ok (.getfield 28, 3) := by decide +kernel
theorem dX6_pieceOf_4 : decode cX6_pieceOf 4 = .ok (.iload_n 1, 1) := by decide +kernel
theorem dX6_pieceOf_5 : decode cX6_pieceOf 5 = .ok (.invokevirtual 138, 3) := by decide +kernel
theorem dX6_pieceOf_8 : decode cX6_pieceOf 8 = .ok (.lstore_n 3, 1) := by decide +kernel
theorem dX6_pieceOf_9 : decode cX6_pieceOf 9 = .ok (.lload_n 3, 1) := by decide +kernel
theorem dX6_pieceOf_10 : decode cX6_pieceOf 10 = .ok (.lconst 0, 1) := by decide +kernel
theorem dX6_pieceOf_11 : decode cX6_pieceOf 11 = .ok (.lcmp, 1) := by decide +kernel
theorem dX6_pieceOf_12 : decode cX6_pieceOf 12 = .ok (.ifCond .ne 9, 3) := by decide +kernel
theorem dX6_pieceOf_15 : decode cX6_pieceOf 15 = .ok (.aload_n 0, 1) := by decide +kernel
theorem dX6_pieceOf_16 : decode cX6_pieceOf 16 = .ok (.iconst (-1), 1) := by decide +kernel
theorem dX6_pieceOf_17 : decode cX6_pieceOf 17 = .ok (.invokevirtual 65, 3) := by decide +kernel
theorem dX6_pieceOf_20 : decode cX6_pieceOf 20 = .ok (.ireturn, 1) := by decide +kernel
theorem dX6_pieceOf_21 : decode cX6_pieceOf 21 = .ok (.iload_n 2, 1) := by decide +kernel
theorem dX6_pieceOf_22 : decode cX6_pieceOf 22 = .ok (.tableswitch 78 0 3 #[30, 39, 56, 73], 30) := by decide +kernel
theorem dX6_pieceOf_52 : decode cX6_pieceOf 52 = .ok (.aload_n 0, 1) := by decide +kernel
theorem dX6_pieceOf_53 : decode cX6_pieceOf 53 = .ok (.getfield 28, 3) := by decide +kernel
theorem dX6_pieceOf_56 : decode cX6_pieceOf 56 = .ok (.lload_n 3, 1) := by decide +kernel
theorem dX6_pieceOf_57 : decode cX6_pieceOf 57 = .ok (.invokevirtual 142, 3) := by decide +kernel
theorem dX6_pieceOf_60 : decode cX6_pieceOf 60 = .ok (.ireturn, 1) := by decide +kernel
theorem dX6_pieceOf_61 : decode cX6_pieceOf 61 = .ok (.aload_n 0, 1) := by decide +kernel
theorem dX6_pieceOf_62 : decode cX6_pieceOf 62 = .ok (.getfield 28, 3) := by decide +kernel
theorem dX6_pieceOf_65 : decode cX6_pieceOf 65 = .ok (.lload_n 3, 1) := by decide +kernel
theorem dX6_pieceOf_66 : decode cX6_pieceOf 66 = .ok (.invokevirtual 146, 3) := by decide +kernel
theorem dX6_pieceOf_69 : decode cX6_pieceOf 69 = .ok (.ifCond .eq 7, 3) := by decide +kernel
theorem dX6_pieceOf_72 : decode cX6_pieceOf 72 = .ok (.iconst 1, 1) := by decide +kernel
theorem dX6_pieceOf_73 : decode cX6_pieceOf 73 = .ok (.goto 4, 3) := by decide +kernel
theorem dX6_pieceOf_76 : decode cX6_pieceOf 76 = .ok (.iconst 0, 1) := by decide +kernel
theorem dX6_pieceOf_77 : decode cX6_pieceOf 77 = .ok (.ireturn, 1) := by decide +kernel
theorem dX6_pieceOf_78 : decode cX6_pieceOf 78 = .ok (.aload_n 0, 1) := by decide +kernel
theorem dX6_pieceOf_79 : decode cX6_pieceOf 79 = .ok (.getfield 28, 3) := by decide +kernel
theorem dX6_pieceOf_82 : decode cX6_pieceOf 82 = .ok (.lload_n 3, 1) := by decide +kernel
theorem dX6_pieceOf_83 : decode cX6_pieceOf 83 = .ok (.invokevirtual 150, 3) := by decide +kernel
theorem dX6_pieceOf_86 : decode cX6_pieceOf 86 = .ok (.ifCond .eq 7, 3) := by decide +kernel
theorem dX6_pieceOf_89 : decode cX6_pieceOf 89 = .ok (.iconst 1, 1) := by decide +kernel
theorem dX6_pieceOf_90 : decode cX6_pieceOf 90 = .ok (.goto 4, 3) := by decide +kernel
theorem dX6_pieceOf_93 : decode cX6_pieceOf 93 = .ok (.iconst 0, 1) := by decide +kernel
theorem dX6_pieceOf_94 : decode cX6_pieceOf 94 = .ok (.ireturn, 1) := by decide +kernel
theorem dX6_pieceOf_95 : decode cX6_pieceOf 95 = .ok (.lload_n 3, 1) := by decide +kernel
theorem dX6_pieceOf_96 : decode cX6_pieceOf 96 = .ok (.invokestatic 153, 3) := by decide +kernel
theorem dX6_pieceOf_99 : decode cX6_pieceOf 99 = .ok (.ireturn, 1) := by decide +kernel
theorem dX6_pieceOf_100 : decode cX6_pieceOf 100 = .ok (.aload_n 0, 1) := by decide +kernel
theorem dX6_pieceOf_101 : decode cX6_pieceOf 101 = .ok (.bipush (-2), 2) := by decide +kernel
theorem dX6_pieceOf_103 : decode cX6_pieceOf 103 = .ok (.invokevirtual 65, 3) := by decide +kernel
theorem dX6_pieceOf_106 : decode cX6_pieceOf 106 = .ok (.ireturn, 1) := by decide +kernel
theorem dX6_key_0 : decode cX6_key 0 = .ok (.aload_n 0, 1) := by decide +kernel
theorem dX6_key_1 : decode cX6_key 1 = .ok (.iload_n 1, 1) := by decide +kernel
theorem dX6_key_2 : decode cX6_key 2 = .ok (.invokevirtual 113, 3) := by decide +kernel
theorem dX6_key_5 : decode cX6_key 5 = .ok (.istore_n 2, 1) := by decide +kernel
theorem dX6_key_6 : decode cX6_key 6 = .ok (.iload_n 2, 1) := by decide +kernel
theorem dX6_key_7 : decode cX6_key 7 = .ok (.ifCond .eq 9, 3) := by decide +kernel
theorem dX6_key_10 : decode cX6_key 10 = .ok (.aload_n 0, 1) := by decide +kernel
theorem dX6_key_11 : decode cX6_key 11 = .ok (.iload_n 2, 1) := by decide +kernel
theorem dX6_key_12 : decode cX6_key 12 = .ok (.invokevirtual 65, 3) := by decide +kernel
theorem dX6_key_15 : decode cX6_key 15 = .ok (.ireturn, 1) := by decide +kernel
theorem dX6_key_16 : decode cX6_key 16 = .ok (.aload_n 0, 1) := by decide +kernel
theorem dX6_key_17 : decode cX6_key 17 = .ok (.getfield 28, 3) := by decide +kernel
theorem dX6_key_20 : decode cX6_key 20 = .ok (.iload_n 1, 1) := by decide +kernel
theorem dX6_key_21 : decode cX6_key 21 = .ok (.aload_n 0, 1) := by decide +kernel
theorem dX6_key_22 : decode cX6_key 22 = .ok (.getfield 28, 3) := by decide +kernel
theorem dX6_key_25 : decode cX6_key 25 = .ok (.iload_n 1, 1) := by decide +kernel
theorem dX6_key_26 : decode cX6_key 26 = .ok (.aload_n 0, 1) := by decide +kernel
theorem dX6_key_27 : decode cX6_key 27 = .ok (.getfield 24, 3) := by decide +kernel
theorem dX6_key_30 : decode cX6_key 30 = .ok (.invokevirtual 158, 3) := by decide +kernel
theorem dX6_key_33 : decode cX6_key 33 = .ok (.invokevirtual 162, 3) := by decide +kernel
theorem dX6_key_36 : decode cX6_key 36 = .ok (.invokevirtual 166, 3) := by decide +kernel
theorem dX6_key_39 : decode cX6_key 39 = .ok (.ifCond .eq 7, 3) := by decide +kernel
theorem dX6_key_42 : decode cX6_key 42 = .ok (.iconst 1, 1) := by decide +kernel
theorem dX6_key_43 : decode cX6_key 43 = .ok (.goto 4, 3) := by decide +kernel
theorem dX6_key_46 : decode cX6_key 46 = .ok (.iconst 0, 1) := by decide +kernel
theorem dX6_key_47 : decode cX6_key 47 = .ok (.ireturn, 1) := by decide +kernel
theorem dX6_weak_0 : decode cX6_weak 0 = .ok (.aload_n 0, 1) := by decide +kernel
theorem dX6_weak_1 : decode cX6_weak 1 = .ok (.iload_n 1, 1) := by decide +kernel
theorem dX6_weak_2 : decode cX6_weak 2 = .ok (.invokevirtual 113, 3) := by decide +kernel
theorem dX6_weak_5 : decode cX6_weak 5 = .ok (.istore_n 2, 1) := by decide +kernel
theorem dX6_weak_6 : decode cX6_weak 6 = .ok (.iload_n 2, 1) := by decide +kernel
theorem dX6_weak_7 : decode cX6_weak 7 = .ok (.ifCond .eq 9, 3) := by decide +kernel
theorem dX6_weak_10 : decode cX6_weak 10 = .ok (.aload_n 0, 1) := by decide +kernel
theorem dX6_weak_11 : decode cX6_weak 11 = .ok (.iload_n 2, 1) := by decide +kernel
theorem dX6_weak_12 : decode cX6_weak 12 = .ok (.invokevirtual 65, 3) := by decide +kernel
theorem dX6_weak_15 : decode cX6_weak 15 = .ok (.ireturn, 1) := by decide +kernel
theorem dX6_weak_16 : decode cX6_weak 16 = .ok (.aload_n 0, 1) := by decide +kernel
theorem dX6_weak_17 : decode cX6_weak 17 = .ok (.getfield 28, 3) := by decide +kernel
theorem dX6_weak_20 : decode cX6_weak 20 = .ok (.iload_n 1, 1) := by decide +kernel
theorem dX6_weak_21 : decode cX6_weak 21 = .ok (.aload_n 0, 1) := by decide +kernel
theorem dX6_weak_22 : decode cX6_weak 22 = .ok (.getfield 28, 3) := by decide +kernel
theorem dX6_weak_25 : decode cX6_weak 25 = .ok (.iload_n 1, 1) := by decide +kernel
theorem dX6_weak_26 : decode cX6_weak 26 = .ok (.aload_n 0, 1) := by decide +kernel
theorem dX6_weak_27 : decode cX6_weak 27 = .ok (.getfield 24, 3) := by decide +kernel
theorem dX6_weak_30 : decode cX6_weak 30 = .ok (.invokevirtual 158, 3) := by decide +kernel
theorem dX6_weak_33 : decode cX6_weak 33 = .ok (.invokevirtual 162, 3) := by decide +kernel
theorem dX6_weak_36 : decode cX6_weak 36 = .ok (.invokevirtual 170, 3) := by decide +kernel
theorem dX6_weak_39 : decode cX6_weak 39 = .ok (.ireturn, 1) := by decide +kernel
theorem dX6_sound_0 : decode cX6_sound 0 = .ok (.aload_n 0, 1) := by decide +kernel
theorem dX6_sound_1 : decode cX6_sound 1 = .ok (.getfield 28, 3) := by decide +kernel
theorem dX6_sound_4 : decode cX6_sound 4 = .ok (.invokevirtual 174, 3) := by decide +kernel
theorem dX6_sound_7 : decode cX6_sound 7 = .ok (.ifCond .eq 7, 3) := by decide +kernel
theorem dX6_sound_10 : decode cX6_sound 10 = .ok (.iconst 1, 1) := by decide +kernel
theorem dX6_sound_11 : decode cX6_sound 11 = .ok (.goto 4, 3) := by decide +kernel
theorem dX6_sound_14 : decode cX6_sound 14 = .ok (.iconst 0, 1) := by decide +kernel
theorem dX6_sound_15 : decode cX6_sound 15 = .ok (.ireturn, 1) := by decide +kernel
theorem dX6_grip_0 : decode cX6_grip 0 = .ok (.iload_n 1, 1) := by decide +kernel
theorem dX6_grip_1 : decode cX6_grip 1 = .ok (.iconst 1, 1) := by decide +kernel
theorem dX6_grip_2 : decode cX6_grip 2 = .ok (.if_icmp .ge 10, 3) := by decide +kernel
theorem dX6_grip_5 : decode cX6_grip 5 = .ok (.aload_n 0, 1) := by decide +kernel
theorem dX6_grip_6 : decode cX6_grip 6 = .ok (.bipush (-4), 2) := by decide +kernel
theorem dX6_grip_8 : decode cX6_grip 8 = .ok (.invokevirtual 65, 3) := by decide +kernel
theorem dX6_grip_11 : decode cX6_grip 11 = .ok (.ireturn, 1) := by decide +kernel
theorem dX6_grip_12 : decode cX6_grip 12 = .ok (.iload_n 1, 1) := by decide +kernel
theorem dX6_grip_13 : decode cX6_grip 13 = .ok (.bipush 40, 2) := by decide +kernel
theorem dX6_grip_15 : decode cX6_grip 15 = .ok (.if_icmp .le 10, 3) := by decide +kernel
theorem dX6_grip_18 : decode cX6_grip 18 = .ok (.aload_n 0, 1) := by decide +kernel
theorem dX6_grip_19 : decode cX6_grip 19 = .ok (.bipush (-6), 2) := by decide +kernel
theorem dX6_grip_21 : decode cX6_grip 21 = .ok (.invokevirtual 65, 3) := by decide +kernel
theorem dX6_grip_24 : decode cX6_grip 24 = .ok (.ireturn, 1) := by decide +kernel
theorem dX6_grip_25 : decode cX6_grip 25 = .ok (.aload_n 0, 1) := by decide +kernel
theorem dX6_grip_26 : decode cX6_grip 26 = .ok (.invokevirtual 69, 3) := by decide +kernel
theorem dX6_grip_29 : decode cX6_grip 29 = .ok (.aload_n 0, 1) := by decide +kernel
theorem dX6_grip_30 : decode cX6_grip 30 = .ok (.getfield 28, 3) := by decide +kernel
theorem dX6_grip_33 : decode cX6_grip 33 = .ok (.iload_n 1, 1) := by decide +kernel
theorem dX6_grip_34 : decode cX6_grip 34 = .ok (.invokevirtual 178, 3) := by decide +kernel
theorem dX6_grip_37 : decode cX6_grip 37 = .ok (.ireturn, 1) := by decide +kernel
theorem dX6_fit_0 : decode cX6_fit 0 = .ok (.iload_n 1, 1) := by decide +kernel
theorem dX6_fit_1 : decode cX6_fit 1 = .ok (.ifCond .lt 8, 3) := by decide +kernel
theorem dX6_fit_4 : decode cX6_fit 4 = .ok (.iload_n 1, 1) := by decide +kernel
theorem dX6_fit_5 : decode cX6_fit 5 = .ok (.iconst 2, 1) := by decide +kernel
theorem dX6_fit_6 : decode cX6_fit 6 = .ok (.if_icmp .le 10, 3) := by decide +kernel
theorem dX6_fit_9 : decode cX6_fit 9 = .ok (.aload_n 0, 1) := by decide +kernel
theorem dX6_fit_10 : decode cX6_fit 10 = .ok (.bipush (-2), 2) := by decide +kernel
theorem dX6_fit_12 : decode cX6_fit 12 = .ok (.invokevirtual 65, 3) := by decide +kernel
theorem dX6_fit_15 : decode cX6_fit 15 = .ok (.ireturn, 1) := by decide +kernel
theorem dX6_fit_16 : decode cX6_fit 16 = .ok (.iconst 0, 1) := by decide +kernel
theorem dX6_fit_17 : decode cX6_fit 17 = .ok (.istore_n 2, 1) := by decide +kernel
theorem dX6_fit_18 : decode cX6_fit 18 = .ok (.iconst 0, 1) := by decide +kernel
theorem dX6_fit_19 : decode cX6_fit 19 = .ok (.istore_n 3, 1) := by decide +kernel
theorem dX6_fit_20 : decode cX6_fit 20 = .ok (.iload_n 3, 1) := by decide +kernel
theorem dX6_fit_21 : decode cX6_fit 21 = .ok (.iconst 5, 1) := by decide +kernel
theorem dX6_fit_22 : decode cX6_fit 22 = .ok (.if_icmp .ge 57, 3) := by decide +kernel
theorem dX6_fit_25 : decode cX6_fit 25 = .ok (.iconst 0, 1) := by decide +kernel
theorem dX6_fit_26 : decode cX6_fit 26 = .ok (.istore 4, 2) := by decide +kernel
theorem dX6_fit_28 : decode cX6_fit 28 = .ok (.iload 4, 2) := by decide +kernel
theorem dX6_fit_30 : decode cX6_fit 30 = .ok (.bipush 6, 2) := by decide +kernel
theorem dX6_fit_32 : decode cX6_fit 32 = .ok (.if_icmp .ge 41, 3) := by decide +kernel
theorem dX6_fit_35 : decode cX6_fit 35 = .ok (.iconst 0, 1) := by decide +kernel
theorem dX6_fit_36 : decode cX6_fit 36 = .ok (.istore 5, 2) := by decide +kernel
theorem dX6_fit_38 : decode cX6_fit 38 = .ok (.iload 5, 2) := by decide +kernel
theorem dX6_fit_40 : decode cX6_fit 40 = .ok (.bipush 6, 2) := by decide +kernel
theorem dX6_fit_42 : decode cX6_fit 42 = .ok (.if_icmp .ge 25, 3) := by decide +kernel
theorem dX6_fit_45 : decode cX6_fit 45 = .ok (.aload_n 0, 1) := by decide +kernel
theorem dX6_fit_46 : decode cX6_fit 46 = .ok (.iload 5, 2) := by decide +kernel
theorem dX6_fit_48 : decode cX6_fit 48 = .ok (.iload 4, 2) := by decide +kernel
theorem dX6_fit_50 : decode cX6_fit 50 = .ok (.iload_n 3, 1) := by decide +kernel
theorem dX6_fit_51 : decode cX6_fit 51 = .ok (.invokevirtual 181, 3) := by decide +kernel
theorem dX6_fit_54 : decode cX6_fit 54 = .ok (.iload_n 1, 1) := by decide +kernel
theorem dX6_fit_55 : decode cX6_fit 55 = .ok (.if_icmp .ne 6, 3) := by decide +kernel
theorem dX6_fit_58 : decode cX6_fit 58 = .ok (.iinc 2 1, 3) := by decide +kernel
theorem dX6_fit_61 : decode cX6_fit 61 = .ok (.iinc 5 1, 3) := by decide +kernel
theorem dX6_fit_64 : decode cX6_fit 64 = .ok (.goto (-26), 3) := by decide +kernel
theorem dX6_fit_67 : decode cX6_fit 67 = .ok (.iinc 4 1, 3) := by decide +kernel
theorem dX6_fit_70 : decode cX6_fit 70 = .ok (.goto (-42), 3) := by decide +kernel
theorem dX6_fit_73 : decode cX6_fit 73 = .ok (.iinc 3 1, 3) := by decide +kernel
theorem dX6_fit_76 : decode cX6_fit 76 = .ok (.goto (-56), 3) := by decide +kernel
theorem dX6_fit_79 : decode cX6_fit 79 = .ok (.iload_n 2, 1) := by decide +kernel
theorem dX6_fit_80 : decode cX6_fit 80 = .ok (.ireturn, 1) := by decide +kernel
theorem dX6_seams_0 : decode cX6_seams 0 = .ok (.aload_n 0, 1) := by decide +kernel
theorem dX6_seams_1 : decode cX6_seams 1 = .ok (.getfield 24, 3) := by decide +kernel
theorem dX6_seams_4 : decode cX6_seams 4 = .ok (.iload_n 1, 1) := by decide +kernel
theorem dX6_seams_5 : decode cX6_seams 5 = .ok (.invokevirtual 184, 3) := by decide +kernel
theorem dX6_seams_8 : decode cX6_seams 8 = .ok (.ireturn, 1) := by decide +kernel
theorem dX6_cover_0 : decode cX6_cover 0 = .ok (.aload_n 0, 1) := by decide +kernel
theorem dX6_cover_1 : decode cX6_cover 1 = .ok (.iload_n 1, 1) := by decide +kernel
theorem dX6_cover_2 : decode cX6_cover 2 = .ok (.iload_n 2, 1) := by decide +kernel
theorem dX6_cover_3 : decode cX6_cover 3 = .ok (.invokevirtual 188, 3) := by decide +kernel
theorem dX6_cover_6 : decode cX6_cover 6 = .ok (.istore_n 3, 1) := by decide +kernel
theorem dX6_cover_7 : decode cX6_cover 7 = .ok (.iload_n 3, 1) := by decide +kernel
theorem dX6_cover_8 : decode cX6_cover 8 = .ok (.ifCond .eq 11, 3) := by decide +kernel
theorem dX6_cover_11 : decode cX6_cover 11 = .ok (.aload_n 0, 1) := by decide +kernel
theorem dX6_cover_12 : decode cX6_cover 12 = .ok (.iload_n 3, 1) := by decide +kernel
theorem dX6_cover_13 : decode cX6_cover 13 = .ok (.invokevirtual 65, 3) := by decide +kernel
theorem dX6_cover_16 : decode cX6_cover 16 = .ok (.goto 10, 3) := by decide +kernel
theorem dX6_cover_19 : decode cX6_cover 19 = .ok (.aload_n 0, 1) := by decide +kernel
theorem dX6_cover_20 : decode cX6_cover 20 = .ok (.getfield 37, 3) := by decide +kernel
theorem dX6_cover_23 : decode cX6_cover 23 = .ok (.invokevirtual 191, 3) := by decide +kernel
theorem dX6_cover_26 : decode cX6_cover 26 = .ok (.ireturn, 1) := by decide +kernel
theorem dX6_coverSeams_0 : decode cX6_coverSeams 0 = .ok (.aload_n 0, 1) := by decide +kernel
theorem dX6_coverSeams_1 : decode cX6_coverSeams 1 = .ok (.iload_n 1, 1) := by decide +kernel
theorem dX6_coverSeams_2 : decode cX6_coverSeams 2 = .ok (.iload_n 2, 1) := by decide +kernel
theorem dX6_coverSeams_3 : decode cX6_coverSeams 3 = .ok (.invokevirtual 188, 3) := by decide +kernel
theorem dX6_coverSeams_6 : decode cX6_coverSeams 6 = .ok (.istore_n 3, 1) := by decide +kernel
theorem dX6_coverSeams_7 : decode cX6_coverSeams 7 = .ok (.iload_n 3, 1) := by decide +kernel
theorem dX6_coverSeams_8 : decode cX6_coverSeams 8 = .ok (.ifCond .eq 11, 3) := by decide +kernel
theorem dX6_coverSeams_11 : decode cX6_coverSeams 11 = .ok (.aload_n 0, 1) := by decide +kernel
theorem dX6_coverSeams_12 : decode cX6_coverSeams 12 = .ok (.iload_n 3, 1) := by decide +kernel
theorem dX6_coverSeams_13 : decode cX6_coverSeams 13 = .ok (.invokevirtual 65, 3) := by decide +kernel
theorem dX6_coverSeams_16 : decode cX6_coverSeams 16 = .ok (.goto 10, 3) := by decide +kernel
theorem dX6_coverSeams_19 : decode cX6_coverSeams 19 = .ok (.aload_n 0, 1) := by decide +kernel
theorem dX6_coverSeams_20 : decode cX6_coverSeams 20 = .ok (.getfield 37, 3) := by decide +kernel
theorem dX6_coverSeams_23 : decode cX6_coverSeams 23 = .ok (.invokevirtual 194, 3) := by decide +kernel
theorem dX6_coverSeams_26 : decode cX6_coverSeams 26 = .ok (.ireturn, 1) := by decide +kernel
theorem dX6_coverAt_0 : decode cX6_coverAt 0 = .ok (.aload_n 0, 1) := by decide +kernel
theorem dX6_coverAt_1 : decode cX6_coverAt 1 = .ok (.iload_n 1, 1) := by decide +kernel
theorem dX6_coverAt_2 : decode cX6_coverAt 2 = .ok (.iload_n 2, 1) := by decide +kernel
theorem dX6_coverAt_3 : decode cX6_coverAt 3 = .ok (.invokevirtual 188, 3) := by decide +kernel
theorem dX6_coverAt_6 : decode cX6_coverAt 6 = .ok (.istore 4, 2) := by decide +kernel
theorem dX6_coverAt_8 : decode cX6_coverAt 8 = .ok (.iload 4, 2) := by decide +kernel
theorem dX6_coverAt_10 : decode cX6_coverAt 10 = .ok (.ifCond .eq 12, 3) := by decide +kernel
theorem dX6_coverAt_13 : decode cX6_coverAt 13 = .ok (.aload_n 0, 1) := by decide +kernel
theorem dX6_coverAt_14 : decode cX6_coverAt 14 = .ok (.iload 4, 2) := by decide +kernel
theorem dX6_coverAt_16 : decode cX6_coverAt 16 = .ok (.invokevirtual 65, 3) := by decide +kernel
theorem dX6_coverAt_19 : decode cX6_coverAt 19 = .ok (.goto 11, 3) := by decide +kernel
theorem dX6_coverAt_22 : decode cX6_coverAt 22 = .ok (.aload_n 0, 1) := by decide +kernel
theorem dX6_coverAt_23 : decode cX6_coverAt 23 = .ok (.getfield 37, 3) := by decide +kernel
theorem dX6_coverAt_26 : decode cX6_coverAt 26 = .ok (.iload_n 3, 1) := by decide +kernel
theorem dX6_coverAt_27 : decode cX6_coverAt 27 = .ok (.invokevirtual 197, 3) := by decide +kernel
theorem dX6_coverAt_30 : decode cX6_coverAt 30 = .ok (.ireturn, 1) := by decide +kernel
theorem dX6_lay_0 : decode cX6_lay 0 = .ok (.aload_n 0, 1) := by decide +kernel
theorem dX6_lay_1 : decode cX6_lay 1 = .ok (.iload_n 1, 1) := by decide +kernel
theorem dX6_lay_2 : decode cX6_lay 2 = .ok (.iload_n 2, 1) := by decide +kernel
theorem dX6_lay_3 : decode cX6_lay 3 = .ok (.invokevirtual 188, 3) := by decide +kernel
theorem dX6_lay_6 : decode cX6_lay 6 = .ok (.istore_n 3, 1) := by decide +kernel
theorem dX6_lay_7 : decode cX6_lay 7 = .ok (.iload_n 3, 1) := by decide +kernel
theorem dX6_lay_8 : decode cX6_lay 8 = .ok (.ifCond .eq 9, 3) := by decide +kernel
theorem dX6_lay_11 : decode cX6_lay 11 = .ok (.aload_n 0, 1) := by decide +kernel
theorem dX6_lay_12 : decode cX6_lay 12 = .ok (.iload_n 3, 1) := by decide +kernel
theorem dX6_lay_13 : decode cX6_lay 13 = .ok (.invokevirtual 65, 3) := by decide +kernel
theorem dX6_lay_16 : decode cX6_lay 16 = .ok (.ireturn, 1) := by decide +kernel
theorem dX6_lay_17 : decode cX6_lay 17 = .ok (.aload_n 0, 1) := by decide +kernel
theorem dX6_lay_18 : decode cX6_lay 18 = .ok (.getfield 37, 3) := by decide +kernel
theorem dX6_lay_21 : decode cX6_lay 21 = .ok (.invokevirtual 191, 3) := by decide +kernel
theorem dX6_lay_24 : decode cX6_lay 24 = .ok (.istore 4, 2) := by decide +kernel
theorem dX6_lay_26 : decode cX6_lay 26 = .ok (.aload_n 0, 1) := by decide +kernel
theorem dX6_lay_27 : decode cX6_lay 27 = .ok (.getfield 24, 3) := by decide +kernel
theorem dX6_lay_30 : decode cX6_lay 30 = .ok (.invokevirtual 106, 3) := by decide +kernel
theorem dX6_lay_33 : decode cX6_lay 33 = .ok (.iload 4, 2) := by decide +kernel
theorem dX6_lay_35 : decode cX6_lay 35 = .ok (.iadd, 1) := by decide +kernel
theorem dX6_lay_36 : decode cX6_lay 36 = .ok (.bipush 40, 2) := by decide +kernel
theorem dX6_lay_38 : decode cX6_lay 38 = .ok (.if_icmp .le 10, 3) := by decide +kernel
theorem dX6_lay_41 : decode cX6_lay 41 = .ok (.aload_n 0, 1) := by decide +kernel
theorem dX6_lay_42 : decode cX6_lay 42 = .ok (.bipush (-6), 2) := by decide +kernel
theorem dX6_lay_44 : decode cX6_lay 44 = .ok (.invokevirtual 65, 3) := by decide +kernel
theorem dX6_lay_47 : decode cX6_lay 47 = .ok (.ireturn, 1) := by decide +kernel
theorem dX6_lay_48 : decode cX6_lay 48 = .ok (.iconst 0, 1) := by decide +kernel
theorem dX6_lay_49 : decode cX6_lay 49 = .ok (.istore 5, 2) := by decide +kernel
theorem dX6_lay_51 : decode cX6_lay 51 = .ok (.iload 5, 2) := by decide +kernel
theorem dX6_lay_53 : decode cX6_lay 53 = .ok (.iload 4, 2) := by decide +kernel
theorem dX6_lay_55 : decode cX6_lay 55 = .ok (.if_icmp .ge 57, 3) := by decide +kernel
theorem dX6_lay_58 : decode cX6_lay 58 = .ok (.aload_n 0, 1) := by decide +kernel
theorem dX6_lay_59 : decode cX6_lay 59 = .ok (.getfield 37, 3) := by decide +kernel
theorem dX6_lay_62 : decode cX6_lay 62 = .ok (.iload 5, 2) := by decide +kernel
theorem dX6_lay_64 : decode cX6_lay 64 = .ok (.invokevirtual 197, 3) := by decide +kernel
theorem dX6_lay_67 : decode cX6_lay 67 = .ok (.istore 6, 2) := by decide +kernel
theorem dX6_lay_69 : decode cX6_lay 69 = .ok (.aload_n 0, 1) := by decide +kernel
theorem dX6_lay_70 : decode cX6_lay 70 = .ok (.getfield 24, 3) := by decide +kernel
theorem dX6_lay_73 : decode cX6_lay 73 = .ok (.iload 6, 2) := by decide +kernel
theorem dX6_lay_75 : decode cX6_lay 75 = .ok (.bipush 10, 2) := by decide +kernel
theorem dX6_lay_77 : decode cX6_lay 77 = .ok (.irem, 1) := by decide +kernel
theorem dX6_lay_78 : decode cX6_lay 78 = .ok (.iload 6, 2) := by decide +kernel
theorem dX6_lay_80 : decode cX6_lay 80 = .ok (.bipush 10, 2) := by decide +kernel
theorem dX6_lay_82 : decode cX6_lay 82 = .ok (.idiv, 1) := by decide +kernel
theorem dX6_lay_83 : decode cX6_lay 83 = .ok (.bipush 10, 2) := by decide +kernel
theorem dX6_lay_85 : decode cX6_lay 85 = .ok (.irem, 1) := by decide +kernel
theorem dX6_lay_86 : decode cX6_lay 86 = .ok (.iload 6, 2) := by decide +kernel
theorem dX6_lay_88 : decode cX6_lay 88 = .ok (.bipush 100, 2) := by decide +kernel
theorem dX6_lay_90 : decode cX6_lay 90 = .ok (.idiv, 1) := by decide +kernel
theorem dX6_lay_91 : decode cX6_lay 91 = .ok (.bipush 10, 2) := by decide +kernel
theorem dX6_lay_93 : decode cX6_lay 93 = .ok (.irem, 1) := by decide +kernel
theorem dX6_lay_94 : decode cX6_lay 94 = .ok (.iload 6, 2) := by decide +kernel
theorem dX6_lay_96 : decode cX6_lay 96 = .ok (.sipush 1000, 3) := by decide +kernel
theorem dX6_lay_99 : decode cX6_lay 99 = .ok (.idiv, 1) := by decide +kernel
theorem dX6_lay_100 : decode cX6_lay 100 = .ok (.iload_n 2, 1) := by decide +kernel
theorem dX6_lay_101 : decode cX6_lay 101 = .ok (.iload_n 1, 1) := by decide +kernel
theorem dX6_lay_102 : decode cX6_lay 102 = .ok (.invokevirtual 109, 3) := by decide +kernel
theorem dX6_lay_105 : decode cX6_lay 105 = .ok (.pop, 1) := by decide +kernel
theorem dX6_lay_106 : decode cX6_lay 106 = .ok (.iinc 5 1, 3) := by decide +kernel
theorem dX6_lay_109 : decode cX6_lay 109 = .ok (.goto (-58), 3) := by decide +kernel
theorem dX6_lay_112 : decode cX6_lay 112 = .ok (.aload_n 0, 1) := by decide +kernel
theorem dX6_lay_113 : decode cX6_lay 113 = .ok (.invokevirtual 69, 3) := by decide +kernel
theorem dX6_lay_116 : decode cX6_lay 116 = .ok (.iload 4, 2) := by decide +kernel
theorem dX6_lay_118 : decode cX6_lay 118 = .ok (.ireturn, 1) := by decide +kernel
theorem dX6_box_0 : decode cX6_box 0 = .ok (.iload_n 1, 1) := by decide +kernel
theorem dX6_box_1 : decode cX6_box 1 = .ok (.invokestatic 84, 3) := by decide +kernel
theorem dX6_box_4 : decode cX6_box 4 = .ok (.ifCond .ne 9, 3) := by decide +kernel
theorem dX6_box_7 : decode cX6_box 7 = .ok (.aload_n 0, 1) := by decide +kernel
theorem dX6_box_8 : decode cX6_box 8 = .ok (.iconst (-1), 1) := by decide +kernel
theorem dX6_box_9 : decode cX6_box 9 = .ok (.invokevirtual 65, 3) := by decide +kernel
theorem dX6_box_12 : decode cX6_box 12 = .ok (.ireturn, 1) := by decide +kernel
theorem dX6_box_13 : decode cX6_box 13 = .ok (.iload_n 2, 1) := by decide +kernel
theorem dX6_box_14 : decode cX6_box 14 = .ok (.ifCond .ge 10, 3) := by decide +kernel
theorem dX6_box_17 : decode cX6_box 17 = .ok (.aload_n 0, 1) := by decide +kernel
theorem dX6_box_18 : decode cX6_box 18 = .ok (.bipush (-4), 2) := by decide +kernel
theorem dX6_box_20 : decode cX6_box 20 = .ok (.invokevirtual 65, 3) := by decide +kernel
theorem dX6_box_23 : decode cX6_box 23 = .ok (.ireturn, 1) := by decide +kernel
theorem dX6_box_24 : decode cX6_box 24 = .ok (.iload_n 2, 1) := by decide +kernel
theorem dX6_box_25 : decode cX6_box 25 = .ok (.bipush 99, 2) := by decide +kernel
theorem dX6_box_27 : decode cX6_box 27 = .ok (.if_icmp .le 10, 3) := by decide +kernel
theorem dX6_box_30 : decode cX6_box 30 = .ok (.aload_n 0, 1) := by decide +kernel
theorem dX6_box_31 : decode cX6_box 31 = .ok (.bipush (-6), 2) := by decide +kernel
theorem dX6_box_33 : decode cX6_box 33 = .ok (.invokevirtual 65, 3) := by decide +kernel
theorem dX6_box_36 : decode cX6_box 36 = .ok (.ireturn, 1) := by decide +kernel
theorem dX6_box_37 : decode cX6_box 37 = .ok (.aload_n 0, 1) := by decide +kernel
theorem dX6_box_38 : decode cX6_box 38 = .ok (.getfield 53, 3) := by decide +kernel
theorem dX6_box_41 : decode cX6_box 41 = .ok (.iload_n 1, 1) := by decide +kernel
theorem dX6_box_42 : decode cX6_box 42 = .ok (.iload_n 2, 1) := by decide +kernel
theorem dX6_box_43 : decode cX6_box 43 = .ok (.invokevirtual 200, 3) := by decide +kernel
theorem dX6_box_46 : decode cX6_box 46 = .ok (.ireturn, 1) := by decide +kernel
theorem dX6_lacking_0 : decode cX6_lacking 0 = .ok (.aload_n 0, 1) := by decide +kernel
theorem dX6_lacking_1 : decode cX6_lacking 1 = .ok (.getfield 53, 3) := by decide +kernel
theorem dX6_lacking_4 : decode cX6_lacking 4 = .ok (.invokevirtual 203, 3) := by decide +kernel
theorem dX6_lacking_7 : decode cX6_lacking 7 = .ok (.iconst 0, 1) := by decide +kernel
theorem dX6_lacking_8 : decode cX6_lacking 8 = .ok (.istore_n 1, 1) := by decide +kernel
theorem dX6_lacking_9 : decode cX6_lacking 9 = .ok (.iconst 0, 1) := by decide +kernel
theorem dX6_lacking_10 : decode cX6_lacking 10 = .ok (.istore_n 2, 1) := by decide +kernel
theorem dX6_lacking_11 : decode cX6_lacking 11 = .ok (.iload_n 2, 1) := by decide +kernel
theorem dX6_lacking_12 : decode cX6_lacking 12 = .ok (.bipush 7, 2) := by decide +kernel
theorem dX6_lacking_14 : decode cX6_lacking 14 = .ok (.if_icmp .ge 20, 3) := by decide +kernel
theorem dX6_lacking_17 : decode cX6_lacking 17 = .ok (.iload_n 1, 1) := by decide +kernel
theorem dX6_lacking_18 : decode cX6_lacking 18 = .ok (.aload_n 0, 1) := by decide +kernel
theorem dX6_lacking_19 : decode cX6_lacking 19 = .ok (.getfield 53, 3) := by decide +kernel
theorem dX6_lacking_22 : decode cX6_lacking 22 = .ok (.iload_n 2, 1) := by decide +kernel
theorem dX6_lacking_23 : decode cX6_lacking 23 = .ok (.invokevirtual 206, 3) := by decide +kernel
theorem dX6_lacking_26 : decode cX6_lacking 26 = .ok (.iadd, 1) := by decide +kernel
theorem dX6_lacking_27 : decode cX6_lacking 27 = .ok (.istore_n 1, 1) := by decide +kernel
theorem dX6_lacking_28 : decode cX6_lacking 28 = .ok (.iinc 2 1, 3) := by decide +kernel
theorem dX6_lacking_31 : decode cX6_lacking 31 = .ok (.goto (-20), 3) := by decide +kernel
theorem dX6_lacking_34 : decode cX6_lacking 34 = .ok (.iload_n 1, 1) := by decide +kernel
theorem dX6_lacking_35 : decode cX6_lacking 35 = .ok (.ireturn, 1) := by decide +kernel
theorem dX6_lacks_0 : decode cX6_lacks 0 = .ok (.iload_n 1, 1) := by decide +kernel
theorem dX6_lacks_1 : decode cX6_lacks 1 = .ok (.invokestatic 84, 3) := by decide +kernel
theorem dX6_lacks_4 : decode cX6_lacks 4 = .ok (.ifCond .ne 9, 3) := by decide +kernel
theorem dX6_lacks_7 : decode cX6_lacks 7 = .ok (.aload_n 0, 1) := by decide +kernel
theorem dX6_lacks_8 : decode cX6_lacks 8 = .ok (.iconst (-1), 1) := by decide +kernel
theorem dX6_lacks_9 : decode cX6_lacks 9 = .ok (.invokevirtual 65, 3) := by decide +kernel
theorem dX6_lacks_12 : decode cX6_lacks 12 = .ok (.ireturn, 1) := by decide +kernel
theorem dX6_lacks_13 : decode cX6_lacks 13 = .ok (.aload_n 0, 1) := by decide +kernel
theorem dX6_lacks_14 : decode cX6_lacks 14 = .ok (.getfield 53, 3) := by decide +kernel
theorem dX6_lacks_17 : decode cX6_lacks 17 = .ok (.invokevirtual 203, 3) := by decide +kernel
theorem dX6_lacks_20 : decode cX6_lacks 20 = .ok (.aload_n 0, 1) := by decide +kernel
theorem dX6_lacks_21 : decode cX6_lacks 21 = .ok (.getfield 53, 3) := by decide +kernel
theorem dX6_lacks_24 : decode cX6_lacks 24 = .ok (.iload_n 1, 1) := by decide +kernel
theorem dX6_lacks_25 : decode cX6_lacks 25 = .ok (.invokevirtual 206, 3) := by decide +kernel
theorem dX6_lacks_28 : decode cX6_lacks 28 = .ok (.ireturn, 1) := by decide +kernel
theorem dX6_order_0 : decode cX6_order 0 = .ok (.aload_n 0, 1) := by decide +kernel
theorem dX6_order_1 : decode cX6_order 1 = .ok (.getfield 24, 3) := by decide +kernel
theorem dX6_order_4 : decode cX6_order 4 = .ok (.invokevirtual 209, 3) := by decide +kernel
theorem dX6_order_7 : decode cX6_order 7 = .ok (.bipush 12, 2) := by decide +kernel
theorem dX6_order_9 : decode cX6_order 9 = .ok (.if_icmp .le 10, 3) := by decide +kernel
theorem dX6_order_12 : decode cX6_order 12 = .ok (.aload_n 0, 1) := by decide +kernel
theorem dX6_order_13 : decode cX6_order 13 = .ok (.bipush (-6), 2) := by decide +kernel
theorem dX6_order_15 : decode cX6_order 15 = .ok (.invokevirtual 65, 3) := by decide +kernel
theorem dX6_order_18 : decode cX6_order 18 = .ok (.ireturn, 1) := by decide +kernel
theorem dX6_order_19 : decode cX6_order 19 = .ok (.aload_n 0, 1) := by decide +kernel
theorem dX6_order_20 : decode cX6_order 20 = .ok (.getfield 46, 3) := by decide +kernel
theorem dX6_order_23 : decode cX6_order 23 = .ok (.invokevirtual 212, 3) := by decide +kernel
theorem dX6_order_26 : decode cX6_order 26 = .ok (.aload_n 0, 1) := by decide +kernel
theorem dX6_order_27 : decode cX6_order 27 = .ok (.getfield 46, 3) := by decide +kernel
theorem dX6_order_30 : decode cX6_order 30 = .ok (.iload_n 1, 1) := by decide +kernel
theorem dX6_order_31 : decode cX6_order 31 = .ok (.invokevirtual 215, 3) := by decide +kernel
theorem dX6_order_34 : decode cX6_order 34 = .ok (.ireturn, 1) := by decide +kernel
theorem dX6_seen_0 : decode cX6_seen 0 = .ok (.iload_n 1, 1) := by decide +kernel
theorem dX6_seen_1 : decode cX6_seen 1 = .ok (.ifCond .lt 8, 3) := by decide +kernel
theorem dX6_seen_4 : decode cX6_seen 4 = .ok (.iload_n 1, 1) := by decide +kernel
theorem dX6_seen_5 : decode cX6_seen 5 = .ok (.iconst 4, 1) := by decide +kernel
theorem dX6_seen_6 : decode cX6_seen 6 = .ok (.if_icmp .le 10, 3) := by decide +kernel
theorem dX6_seen_9 : decode cX6_seen 9 = .ok (.aload_n 0, 1) := by decide +kernel
theorem dX6_seen_10 : decode cX6_seen 10 = .ok (.bipush (-2), 2) := by decide +kernel
theorem dX6_seen_12 : decode cX6_seen 12 = .ok (.invokevirtual 65, 3) := by decide +kernel
theorem dX6_seen_15 : decode cX6_seen 15 = .ok (.ireturn, 1) := by decide +kernel
theorem dX6_seen_16 : decode cX6_seen 16 = .ok (.iload_n 1, 1) := by decide +kernel
theorem dX6_seen_17 : decode cX6_seen 17 = .ok (.iconst 4, 1) := by decide +kernel
theorem dX6_seen_18 : decode cX6_seen 18 = .ok (.if_icmp .ne 8, 3) := by decide +kernel
theorem dX6_seen_21 : decode cX6_seen 21 = .ok (.bipush 6, 2) := by decide +kernel
theorem dX6_seen_23 : decode cX6_seen 23 = .ok (.goto 4, 3) := by decide +kernel
theorem dX6_seen_26 : decode cX6_seen 26 = .ok (.iconst 5, 1) := by decide +kernel
theorem dX6_seen_27 : decode cX6_seen 27 = .ok (.istore 4, 2) := by decide +kernel
theorem dX6_seen_29 : decode cX6_seen 29 = .ok (.iload_n 2, 1) := by decide +kernel
theorem dX6_seen_30 : decode cX6_seen 30 = .ok (.ifCond .lt 19, 3) := by decide +kernel
theorem dX6_seen_33 : decode cX6_seen 33 = .ok (.iload_n 2, 1) := by decide +kernel
theorem dX6_seen_34 : decode cX6_seen 34 = .ok (.bipush 6, 2) := by decide +kernel
theorem dX6_seen_36 : decode cX6_seen 36 = .ok (.if_icmp .ge 13, 3) := by decide +kernel
theorem dX6_seen_39 : decode cX6_seen 39 = .ok (.iload_n 3, 1) := by decide +kernel
theorem dX6_seen_40 : decode cX6_seen 40 = .ok (.ifCond .lt 9, 3) := by decide +kernel
theorem dX6_seen_43 : decode cX6_seen 43 = .ok (.iload_n 3, 1) := by decide +kernel
theorem dX6_seen_44 : decode cX6_seen 44 = .ok (.iload 4, 2) := by decide +kernel
theorem dX6_seen_46 : decode cX6_seen 46 = .ok (.if_icmp .lt 9, 3) := by decide +kernel
theorem dX6_seen_49 : decode cX6_seen 49 = .ok (.aload_n 0, 1) := by decide +kernel
theorem dX6_seen_50 : decode cX6_seen 50 = .ok (.iconst (-1), 1) := by decide +kernel
theorem dX6_seen_51 : decode cX6_seen 51 = .ok (.invokevirtual 65, 3) := by decide +kernel
theorem dX6_seen_54 : decode cX6_seen 54 = .ok (.ireturn, 1) := by decide +kernel
theorem dX6_seen_55 : decode cX6_seen 55 = .ok (.aload_n 0, 1) := by decide +kernel
theorem dX6_seen_56 : decode cX6_seen 56 = .ok (.getfield 24, 3) := by decide +kernel
theorem dX6_seen_59 : decode cX6_seen 59 = .ok (.iload_n 1, 1) := by decide +kernel
theorem dX6_seen_60 : decode cX6_seen 60 = .ok (.iload_n 2, 1) := by decide +kernel
theorem dX6_seen_61 : decode cX6_seen 61 = .ok (.iload_n 3, 1) := by decide +kernel
theorem dX6_seen_62 : decode cX6_seen 62 = .ok (.invokevirtual 218, 3) := by decide +kernel
theorem dX6_seen_65 : decode cX6_seen 65 = .ok (.ireturn, 1) := by decide +kernel
theorem dX6_brickOf_0 : decode cX6_brickOf 0 = .ok (.aload_n 0, 1) := by decide +kernel
theorem dX6_brickOf_1 : decode cX6_brickOf 1 = .ok (.getfield 24, 3) := by decide +kernel
theorem dX6_brickOf_4 : decode cX6_brickOf 4 = .ok (.iload_n 1, 1) := by decide +kernel
theorem dX6_brickOf_5 : decode cX6_brickOf 5 = .ok (.invokevirtual 123, 3) := by decide +kernel
theorem dX6_brickOf_8 : decode cX6_brickOf 8 = .ok (.ifCond .ne 9, 3) := by decide +kernel
theorem dX6_brickOf_11 : decode cX6_brickOf 11 = .ok (.aload_n 0, 1) := by decide +kernel
theorem dX6_brickOf_12 : decode cX6_brickOf 12 = .ok (.iconst (-1), 1) := by decide +kernel
theorem dX6_brickOf_13 : decode cX6_brickOf 13 = .ok (.invokevirtual 65, 3) := by decide +kernel
theorem dX6_brickOf_16 : decode cX6_brickOf 16 = .ok (.ireturn, 1) := by decide +kernel
theorem dX6_brickOf_17 : decode cX6_brickOf 17 = .ok (.iload_n 2, 1) := by decide +kernel
theorem dX6_brickOf_18 : decode cX6_brickOf 18 = .ok (.ifCond .lt 9, 3) := by decide +kernel
theorem dX6_brickOf_21 : decode cX6_brickOf 21 = .ok (.iload_n 2, 1) := by decide +kernel
theorem dX6_brickOf_22 : decode cX6_brickOf 22 = .ok (.bipush 6, 2) := by decide +kernel
theorem dX6_brickOf_24 : decode cX6_brickOf 24 = .ok (.if_icmp .le 10, 3) := by decide +kernel
theorem dX6_brickOf_27 : decode cX6_brickOf 27 = .ok (.aload_n 0, 1) := by decide +kernel
theorem dX6_brickOf_28 : decode cX6_brickOf 28 = .ok (.bipush (-2), 2) := by decide +kernel
theorem dX6_brickOf_30 : decode cX6_brickOf 30 = .ok (.invokevirtual 65, 3) := by decide +kernel
theorem dX6_brickOf_33 : decode cX6_brickOf 33 = .ok (.ireturn, 1) := by decide +kernel
theorem dX6_brickOf_34 : decode cX6_brickOf 34 = .ok (.aload_n 0, 1) := by decide +kernel
theorem dX6_brickOf_35 : decode cX6_brickOf 35 = .ok (.getfield 24, 3) := by decide +kernel
theorem dX6_brickOf_38 : decode cX6_brickOf 38 = .ok (.iload_n 1, 1) := by decide +kernel
theorem dX6_brickOf_39 : decode cX6_brickOf 39 = .ok (.iload_n 2, 1) := by decide +kernel
theorem dX6_brickOf_40 : decode cX6_brickOf 40 = .ok (.invokevirtual 221, 3) := by decide +kernel
theorem dX6_brickOf_43 : decode cX6_brickOf 43 = .ok (.ireturn, 1) := by decide +kernel
theorem dX6_count_0 : decode cX6_count 0 = .ok (.iload_n 1, 1) := by decide +kernel
theorem dX6_count_1 : decode cX6_count 1 = .ok (.bipush 11, 2) := by decide +kernel
theorem dX6_count_3 : decode cX6_count 3 = .ok (.if_icmp .lt 19, 3) := by decide +kernel
theorem dX6_count_6 : decode cX6_count 6 = .ok (.iload_n 1, 1) := by decide +kernel
theorem dX6_count_7 : decode cX6_count 7 = .ok (.bipush 16, 2) := by decide +kernel
theorem dX6_count_9 : decode cX6_count 9 = .ok (.if_icmp .gt 13, 3) := by decide +kernel
theorem dX6_count_12 : decode cX6_count 12 = .ok (.aload_n 0, 1) := by decide +kernel
theorem dX6_count_13 : decode cX6_count 13 = .ok (.getfield 57, 3) := by decide +kernel
theorem dX6_count_16 : decode cX6_count 16 = .ok (.iload_n 1, 1) := by decide +kernel
theorem dX6_count_17 : decode cX6_count 17 = .ok (.bipush 10, 2) := by decide +kernel
theorem dX6_count_19 : decode cX6_count 19 = .ok (.isub, 1) := by decide +kernel
theorem dX6_count_20 : decode cX6_count 20 = .ok (.iaload, 1) := by decide +kernel
theorem dX6_count_21 : decode cX6_count 21 = .ok (.ireturn, 1) := by decide +kernel
theorem dX6_count_22 : decode cX6_count 22 = .ok (.iload_n 1, 1) := by decide +kernel
theorem dX6_count_23 : decode cX6_count 23 = .ok (.tableswitch 85 0 5 #[37, 45, 53, 61, 69, 77], 37) := by decide +kernel
theorem dX6_count_60 : decode cX6_count 60 = .ok (.aload_n 0, 1) := by decide +kernel
theorem dX6_count_61 : decode cX6_count 61 = .ok (.getfield 18, 3) := by decide +kernel
theorem dX6_count_64 : decode cX6_count 64 = .ok (.invokevirtual 224, 3) := by decide +kernel
theorem dX6_count_67 : decode cX6_count 67 = .ok (.ireturn, 1) := by decide +kernel
theorem dX6_count_68 : decode cX6_count 68 = .ok (.aload_n 0, 1) := by decide +kernel
theorem dX6_count_69 : decode cX6_count 69 = .ok (.getfield 24, 3) := by decide +kernel
theorem dX6_count_72 : decode cX6_count 72 = .ok (.invokevirtual 209, 3) := by decide +kernel
theorem dX6_count_75 : decode cX6_count 75 = .ok (.ireturn, 1) := by decide +kernel
theorem dX6_count_76 : decode cX6_count 76 = .ok (.aload_n 0, 1) := by decide +kernel
theorem dX6_count_77 : decode cX6_count 77 = .ok (.getfield 24, 3) := by decide +kernel
theorem dX6_count_80 : decode cX6_count 80 = .ok (.invokevirtual 106, 3) := by decide +kernel
theorem dX6_count_83 : decode cX6_count 83 = .ok (.ireturn, 1) := by decide +kernel
theorem dX6_count_84 : decode cX6_count 84 = .ok (.aload_n 0, 1) := by decide +kernel
theorem dX6_count_85 : decode cX6_count 85 = .ok (.getfield 28, 3) := by decide +kernel
theorem dX6_count_88 : decode cX6_count 88 = .ok (.invokevirtual 227, 3) := by decide +kernel
theorem dX6_count_91 : decode cX6_count 91 = .ok (.ireturn, 1) := by decide +kernel
theorem dX6_count_92 : decode cX6_count 92 = .ok (.aload_n 0, 1) := by decide +kernel
theorem dX6_count_93 : decode cX6_count 93 = .ok (.getfield 28, 3) := by decide +kernel
theorem dX6_count_96 : decode cX6_count 96 = .ok (.invokevirtual 230, 3) := by decide +kernel
theorem dX6_count_99 : decode cX6_count 99 = .ok (.ireturn, 1) := by decide +kernel
theorem dX6_count_100 : decode cX6_count 100 = .ok (.aload_n 0, 1) := by decide +kernel
theorem dX6_count_101 : decode cX6_count 101 = .ok (.getfield 28, 3) := by decide +kernel
theorem dX6_count_104 : decode cX6_count 104 = .ok (.invokevirtual 233, 3) := by decide +kernel
theorem dX6_count_107 : decode cX6_count 107 = .ok (.ireturn, 1) := by decide +kernel
theorem dX6_count_108 : decode cX6_count 108 = .ok (.bipush (-9), 2) := by decide +kernel
theorem dX6_count_110 : decode cX6_count 110 = .ok (.ireturn, 1) := by decide +kernel
theorem dX6_refuse_0 : decode cX6_refuse 0 = .ok (.iload_n 1, 1) := by decide +kernel
theorem dX6_refuse_1 : decode cX6_refuse 1 = .ok (.ineg, 1) := by decide +kernel
theorem dX6_refuse_2 : decode cX6_refuse 2 = .ok (.istore_n 2, 1) := by decide +kernel
theorem dX6_refuse_3 : decode cX6_refuse 3 = .ok (.iload_n 2, 1) := by decide +kernel
theorem dX6_refuse_4 : decode cX6_refuse 4 = .ok (.ifCond .lt 22, 3) := by decide +kernel
theorem dX6_refuse_7 : decode cX6_refuse 7 = .ok (.iload_n 2, 1) := by decide +kernel
theorem dX6_refuse_8 : decode cX6_refuse 8 = .ok (.aload_n 0, 1) := by decide +kernel
theorem dX6_refuse_9 : decode cX6_refuse 9 = .ok (.getfield 57, 3) := by decide +kernel
theorem dX6_refuse_12 : decode cX6_refuse 12 = .ok (.arraylength, 1) := by decide +kernel
theorem dX6_refuse_13 : decode cX6_refuse 13 = .ok (.if_icmp .ge 13, 3) := by decide +kernel
theorem dX6_refuse_16 : decode cX6_refuse 16 = .ok (.aload_n 0, 1) := by decide +kernel
theorem dX6_refuse_17 : decode cX6_refuse 17 = .ok (.getfield 57, 3) := by decide +kernel
theorem dX6_refuse_20 : decode cX6_refuse 20 = .ok (.iload_n 2, 1) := by decide +kernel
theorem dX6_refuse_21 : decode cX6_refuse 21 = .ok (.dup2, 1) := by decide +kernel
theorem dX6_refuse_22 : decode cX6_refuse 22 = .ok (.iaload, 1) := by decide +kernel
theorem dX6_refuse_23 : decode cX6_refuse 23 = .ok (.iconst 1, 1) := by decide +kernel
theorem dX6_refuse_24 : decode cX6_refuse 24 = .ok (.iadd, 1) := by decide +kernel
theorem dX6_refuse_25 : decode cX6_refuse 25 = .ok (.iastore, 1) := by decide +kernel
theorem dX6_refuse_26 : decode cX6_refuse 26 = .ok (.iload_n 1, 1) := by decide +kernel
theorem dX6_refuse_27 : decode cX6_refuse 27 = .ok (.ireturn, 1) := by decide +kernel
theorem dX6_forgetAnswers_0 : decode cX6_forgetAnswers 0 = .ok (.aload_n 0, 1) := by decide +kernel
theorem dX6_forgetAnswers_1 : decode cX6_forgetAnswers 1 = .ok (.getfield 37, 3) := by decide +kernel
theorem dX6_forgetAnswers_4 : decode cX6_forgetAnswers 4 = .ok (.invokevirtual 236, 3) := by decide +kernel
theorem dX6_forgetAnswers_7 : decode cX6_forgetAnswers 7 = .ok (.aload_n 0, 1) := by decide +kernel
theorem dX6_forgetAnswers_8 : decode cX6_forgetAnswers 8 = .ok (.getfield 46, 3) := by decide +kernel
theorem dX6_forgetAnswers_11 : decode cX6_forgetAnswers 11 = .ok (.invokevirtual 239, 3) := by decide +kernel
theorem dX6_forgetAnswers_14 : decode cX6_forgetAnswers 14 = .ok (.return_, 1) := by decide +kernel
theorem dX6_refusalOf_0 : decode cX6_refusalOf 0 = .ok (.aload_n 0, 1) := by decide +kernel
theorem dX6_refusalOf_1 : decode cX6_refusalOf 1 = .ok (.getfield 24, 3) := by decide +kernel
theorem dX6_refusalOf_4 : decode cX6_refusalOf 4 = .ok (.iload_n 1, 1) := by decide +kernel
theorem dX6_refusalOf_5 : decode cX6_refusalOf 5 = .ok (.invokevirtual 123, 3) := by decide +kernel
theorem dX6_refusalOf_8 : decode cX6_refusalOf 8 = .ok (.ifCond .ne 5, 3) := by decide +kernel
theorem dX6_refusalOf_11 : decode cX6_refusalOf 11 = .ok (.iconst (-1), 1) := by decide +kernel
theorem dX6_refusalOf_12 : decode cX6_refusalOf 12 = .ok (.ireturn, 1) := by decide +kernel
theorem dX6_refusalOf_13 : decode cX6_refusalOf 13 = .ok (.aload_n 0, 1) := by decide +kernel
theorem dX6_refusalOf_14 : decode cX6_refusalOf 14 = .ok (.getfield 24, 3) := by decide +kernel
theorem dX6_refusalOf_17 : decode cX6_refusalOf 17 = .ok (.iload_n 1, 1) := by decide +kernel
theorem dX6_refusalOf_18 : decode cX6_refusalOf 18 = .ok (.invokevirtual 126, 3) := by decide +kernel
theorem dX6_refusalOf_21 : decode cX6_refusalOf 21 = .ok (.ifCond .eq 7, 3) := by decide +kernel
theorem dX6_refusalOf_24 : decode cX6_refusalOf 24 = .ok (.iconst 0, 1) := by decide +kernel
theorem dX6_refusalOf_25 : decode cX6_refusalOf 25 = .ok (.goto 5, 3) := by decide +kernel
theorem dX6_refusalOf_28 : decode cX6_refusalOf 28 = .ok (.bipush (-3), 2) := by decide +kernel
theorem dX6_refusalOf_30 : decode cX6_refusalOf 30 = .ok (.ireturn, 1) := by decide +kernel
theorem dX6_refusalOfCover_0 : decode cX6_refusalOfCover 0 = .ok (.iload_n 1, 1) := by decide +kernel
theorem dX6_refusalOfCover_1 : decode cX6_refusalOfCover 1 = .ok (.invokestatic 88, 3) := by decide +kernel
theorem dX6_refusalOfCover_4 : decode cX6_refusalOfCover 4 = .ok (.ifCond .eq 12, 3) := by decide +kernel
theorem dX6_refusalOfCover_7 : decode cX6_refusalOfCover 7 = .ok (.iload_n 2, 1) := by decide +kernel
theorem dX6_refusalOfCover_8 : decode cX6_refusalOfCover 8 = .ok (.ifCond .lt 8, 3) := by decide +kernel
theorem dX6_refusalOfCover_11 : decode cX6_refusalOfCover 11 = .ok (.iload_n 2, 1) := by decide +kernel
theorem dX6_refusalOfCover_12 : decode cX6_refusalOfCover 12 = .ok (.iconst 5, 1) := by decide +kernel
theorem dX6_refusalOfCover_13 : decode cX6_refusalOfCover 13 = .ok (.if_icmp .lt 5, 3) := by decide +kernel
theorem dX6_refusalOfCover_16 : decode cX6_refusalOfCover 16 = .ok (.iconst (-1), 1) := by decide +kernel
theorem dX6_refusalOfCover_17 : decode cX6_refusalOfCover 17 = .ok (.ireturn, 1) := by decide +kernel
theorem dX6_refusalOfCover_18 : decode cX6_refusalOfCover 18 = .ok (.aload_n 0, 1) := by decide +kernel
theorem dX6_refusalOfCover_19 : decode cX6_refusalOfCover 19 = .ok (.getfield 37, 3) := by decide +kernel
theorem dX6_refusalOfCover_22 : decode cX6_refusalOfCover 22 = .ok (.iload_n 1, 1) := by decide +kernel
theorem dX6_refusalOfCover_23 : decode cX6_refusalOfCover 23 = .ok (.iload_n 2, 1) := by decide +kernel
theorem dX6_refusalOfCover_24 : decode cX6_refusalOfCover 24 = .ok (.invokevirtual 240, 3) := by decide +kernel
theorem dX6_refusalOfCover_27 : decode cX6_refusalOfCover 27 = .ok (.ifCond .eq 7, 3) := by decide +kernel
theorem dX6_refusalOfCover_30 : decode cX6_refusalOfCover 30 = .ok (.iconst 0, 1) := by decide +kernel
theorem dX6_refusalOfCover_31 : decode cX6_refusalOfCover 31 = .ok (.goto 5, 3) := by decide +kernel
theorem dX6_refusalOfCover_34 : decode cX6_refusalOfCover 34 = .ok (.bipush (-6), 2) := by decide +kernel
theorem dX6_refusalOfCover_36 : decode cX6_refusalOfCover 36 = .ok (.ireturn, 1) := by decide +kernel
theorem dX6_fault_0 : decode cX6_fault 0 = .ok (.aload_n 0, 1) := by decide +kernel
theorem dX6_fault_1 : decode cX6_fault 1 = .ok (.getfield 18, 3) := by decide +kernel
theorem dX6_fault_4 : decode cX6_fault 4 = .ok (.iload_n 1, 1) := by decide +kernel
theorem dX6_fault_5 : decode cX6_fault 5 = .ok (.iload_n 2, 1) := by decide +kernel
theorem dX6_fault_6 : decode cX6_fault 6 = .ok (.iload_n 3, 1) := by decide +kernel
theorem dX6_fault_7 : decode cX6_fault 7 = .ok (.invokevirtual 76, 3) := by decide +kernel
theorem dX6_fault_10 : decode cX6_fault 10 = .ok (.istore 4, 2) := by decide +kernel
theorem dX6_fault_12 : decode cX6_fault 12 = .ok (.aload_n 0, 1) := by decide +kernel
theorem dX6_fault_13 : decode cX6_fault 13 = .ok (.getfield 24, 3) := by decide +kernel
theorem dX6_fault_16 : decode cX6_fault 16 = .ok (.iload_n 1, 1) := by decide +kernel
theorem dX6_fault_17 : decode cX6_fault 17 = .ok (.iload_n 2, 1) := by decide +kernel
theorem dX6_fault_18 : decode cX6_fault 18 = .ok (.iload_n 3, 1) := by decide +kernel
theorem dX6_fault_19 : decode cX6_fault 19 = .ok (.invokevirtual 120, 3) := by decide +kernel
theorem dX6_fault_22 : decode cX6_fault 22 = .ok (.istore 5, 2) := by decide +kernel
theorem dX6_fault_24 : decode cX6_fault 24 = .ok (.iload 5, 2) := by decide +kernel
theorem dX6_fault_26 : decode cX6_fault 26 = .ok (.iconst (-1), 1) := by decide +kernel
theorem dX6_fault_27 : decode cX6_fault 27 = .ok (.if_icmp .ne 14, 3) := by decide +kernel
theorem dX6_fault_30 : decode cX6_fault 30 = .ok (.iload 4, 2) := by decide +kernel
theorem dX6_fault_32 : decode cX6_fault 32 = .ok (.ifCond .ne 7, 3) := by decide +kernel
theorem dX6_fault_35 : decode cX6_fault 35 = .ok (.iconst (-1), 1) := by decide +kernel
theorem dX6_fault_36 : decode cX6_fault 36 = .ok (.goto 4, 3) := by decide +kernel
theorem dX6_fault_39 : decode cX6_fault 39 = .ok (.iconst 0, 1) := by decide +kernel
theorem dX6_fault_40 : decode cX6_fault 40 = .ok (.ireturn, 1) := by decide +kernel
theorem dX6_fault_41 : decode cX6_fault 41 = .ok (.iload 4, 2) := by decide +kernel
theorem dX6_fault_43 : decode cX6_fault 43 = .ok (.ifCond .ne 5, 3) := by decide +kernel
theorem dX6_fault_46 : decode cX6_fault 46 = .ok (.iconst 2, 1) := by decide +kernel
theorem dX6_fault_47 : decode cX6_fault 47 = .ok (.ireturn, 1) := by decide +kernel
theorem dX6_fault_48 : decode cX6_fault 48 = .ok (.aload_n 0, 1) := by decide +kernel
theorem dX6_fault_49 : decode cX6_fault 49 = .ok (.getfield 24, 3) := by decide +kernel
theorem dX6_fault_52 : decode cX6_fault 52 = .ok (.iload 5, 2) := by decide +kernel
theorem dX6_fault_54 : decode cX6_fault 54 = .ok (.invokevirtual 244, 3) := by decide +kernel
theorem dX6_fault_57 : decode cX6_fault 57 = .ok (.iload 4, 2) := by decide +kernel
theorem dX6_fault_59 : decode cX6_fault 59 = .ok (.if_icmp .eq 16, 3) := by decide +kernel
theorem dX6_fault_62 : decode cX6_fault 62 = .ok (.aload_n 0, 1) := by decide +kernel
theorem dX6_fault_63 : decode cX6_fault 63 = .ok (.getfield 18, 3) := by decide +kernel
theorem dX6_fault_66 : decode cX6_fault 66 = .ok (.iload_n 1, 1) := by decide +kernel
theorem dX6_fault_67 : decode cX6_fault 67 = .ok (.iload_n 2, 1) := by decide +kernel
theorem dX6_fault_68 : decode cX6_fault 68 = .ok (.iload_n 3, 1) := by decide +kernel
theorem dX6_fault_69 : decode cX6_fault 69 = .ok (.invokevirtual 247, 3) := by decide +kernel
theorem dX6_fault_72 : decode cX6_fault 72 = .ok (.ifCond .eq 7, 3) := by decide +kernel
theorem dX6_fault_75 : decode cX6_fault 75 = .ok (.iconst (-1), 1) := by decide +kernel
theorem dX6_fault_76 : decode cX6_fault 76 = .ok (.goto 4, 3) := by decide +kernel
theorem dX6_fault_79 : decode cX6_fault 79 = .ok (.iconst 1, 1) := by decide +kernel
theorem dX6_fault_80 : decode cX6_fault 80 = .ok (.ireturn, 1) := by decide +kernel
theorem dX6_isPlace_0 : decode cX6_isPlace 0 = .ok (.iload_n 0, 1) := by decide +kernel
theorem dX6_isPlace_1 : decode cX6_isPlace 1 = .ok (.ifCond .lt 32, 3) := by decide +kernel
theorem dX6_isPlace_4 : decode cX6_isPlace 4 = .ok (.iload_n 0, 1) := by decide +kernel
theorem dX6_isPlace_5 : decode cX6_isPlace 5 = .ok (.bipush 6, 2) := by decide +kernel
theorem dX6_isPlace_7 : decode cX6_isPlace 7 = .ok (.if_icmp .ge 26, 3) := by decide +kernel
theorem dX6_isPlace_10 : decode cX6_isPlace 10 = .ok (.iload_n 1, 1) := by decide +kernel
theorem dX6_isPlace_11 : decode cX6_isPlace 11 = .ok (.ifCond .lt 22, 3) := by decide +kernel
theorem dX6_isPlace_14 : decode cX6_isPlace 14 = .ok (.iload_n 1, 1) := by decide +kernel
theorem dX6_isPlace_15 : decode cX6_isPlace 15 = .ok (.bipush 6, 2) := by decide +kernel
theorem dX6_isPlace_17 : decode cX6_isPlace 17 = .ok (.if_icmp .ge 16, 3) := by decide +kernel
theorem dX6_isPlace_20 : decode cX6_isPlace 20 = .ok (.iload_n 2, 1) := by decide +kernel
theorem dX6_isPlace_21 : decode cX6_isPlace 21 = .ok (.ifCond .lt 12, 3) := by decide +kernel
theorem dX6_isPlace_24 : decode cX6_isPlace 24 = .ok (.iload_n 2, 1) := by decide +kernel
theorem dX6_isPlace_25 : decode cX6_isPlace 25 = .ok (.iconst 5, 1) := by decide +kernel
theorem dX6_isPlace_26 : decode cX6_isPlace 26 = .ok (.if_icmp .ge 7, 3) := by decide +kernel
theorem dX6_isPlace_29 : decode cX6_isPlace 29 = .ok (.iconst 1, 1) := by decide +kernel
theorem dX6_isPlace_30 : decode cX6_isPlace 30 = .ok (.goto 4, 3) := by decide +kernel
theorem dX6_isPlace_33 : decode cX6_isPlace 33 = .ok (.iconst 0, 1) := by decide +kernel
theorem dX6_isPlace_34 : decode cX6_isPlace 34 = .ok (.ireturn, 1) := by decide +kernel
theorem dX6_isKind_0 : decode cX6_isKind 0 = .ok (.iload_n 0, 1) := by decide +kernel
theorem dX6_isKind_1 : decode cX6_isKind 1 = .ok (.ifCond .lt 13, 3) := by decide +kernel
theorem dX6_isKind_4 : decode cX6_isKind 4 = .ok (.iload_n 0, 1) := by decide +kernel
theorem dX6_isKind_5 : decode cX6_isKind 5 = .ok (.bipush 7, 2) := by decide +kernel
theorem dX6_isKind_7 : decode cX6_isKind 7 = .ok (.if_icmp .ge 7, 3) := by decide +kernel
theorem dX6_isKind_10 : decode cX6_isKind 10 = .ok (.iconst 1, 1) := by decide +kernel
theorem dX6_isKind_11 : decode cX6_isKind 11 = .ok (.goto 4, 3) := by decide +kernel
theorem dX6_isKind_14 : decode cX6_isKind 14 = .ok (.iconst 0, 1) := by decide +kernel
theorem dX6_isKind_15 : decode cX6_isKind 15 = .ok (.ireturn, 1) := by decide +kernel
theorem dX6_isBrickColour_0 : decode cX6_isBrickColour 0 = .ok (.iload_n 0, 1) := by decide +kernel
theorem dX6_isBrickColour_1 : decode cX6_isBrickColour 1 = .ok (.iconst 1, 1) := by decide +kernel
theorem dX6_isBrickColour_2 : decode cX6_isBrickColour 2 = .ok (.if_icmp .lt 12, 3) := by decide +kernel
theorem dX6_isBrickColour_5 : decode cX6_isBrickColour 5 = .ok (.iload_n 0, 1) := by decide +kernel
theorem dX6_isBrickColour_6 : decode cX6_isBrickColour 6 = .ok (.iconst 5, 1) := by decide +kernel
theorem dX6_isBrickColour_7 : decode cX6_isBrickColour 7 = .ok (.if_icmp .gt 7, 3) := by decide +kernel
theorem dX6_isBrickColour_10 : decode cX6_isBrickColour 10 = .ok (.iconst 1, 1) := by decide +kernel
theorem dX6_isBrickColour_11 : decode cX6_isBrickColour 11 = .ok (.goto 4, 3) := by decide +kernel
theorem dX6_isBrickColour_14 : decode cX6_isBrickColour 14 = .ok (.iconst 0, 1) := by decide +kernel
theorem dX6_isBrickColour_15 : decode cX6_isBrickColour 15 = .ok (.ireturn, 1) := by decide +kernel
theorem dX6_indexOf_0 : decode cX6_indexOf 0 = .ok (.iload_n 2, 1) := by decide +kernel
theorem dX6_indexOf_1 : decode cX6_indexOf 1 = .ok (.bipush 6, 2) := by decide +kernel
theorem dX6_indexOf_3 : decode cX6_indexOf 3 = .ok (.imul, 1) := by decide +kernel
theorem dX6_indexOf_4 : decode cX6_indexOf 4 = .ok (.iload_n 1, 1) := by decide +kernel
theorem dX6_indexOf_5 : decode cX6_indexOf 5 = .ok (.iadd, 1) := by decide +kernel
theorem dX6_indexOf_6 : decode cX6_indexOf 6 = .ok (.bipush 6, 2) := by decide +kernel
theorem dX6_indexOf_8 : decode cX6_indexOf 8 = .ok (.imul, 1) := by decide +kernel
theorem dX6_indexOf_9 : decode cX6_indexOf 9 = .ok (.iload_n 0, 1) := by decide +kernel
theorem dX6_indexOf_10 : decode cX6_indexOf 10 = .ok (.iadd, 1) := by decide +kernel
theorem dX6_indexOf_11 : decode cX6_indexOf 11 = .ok (.ireturn, 1) := by decide +kernel
theorem dX6_least_0 : decode cX6_least 0 = .ok (.lload_n 0, 1) := by decide +kernel
theorem dX6_least_1 : decode cX6_least 1 = .ok (.lload_n 0, 1) := by decide +kernel
theorem dX6_least_2 : decode cX6_least 2 = .ok (.lneg, 1) := by decide +kernel
theorem dX6_least_3 : decode cX6_least 3 = .ok (.land, 1) := by decide +kernel
theorem dX6_least_4 : decode cX6_least 4 = .ok (.lconst 1, 1) := by decide +kernel
theorem dX6_least_5 : decode cX6_least 5 = .ok (.lsub, 1) := by decide +kernel
theorem dX6_least_6 : decode cX6_least 6 = .ok (.invokestatic 153, 3) := by decide +kernel
theorem dX6_least_9 : decode cX6_least 9 = .ok (.ireturn, 1) := by decide +kernel
theorem dX7_init_0 : decode cX7_init 0 = .ok (.aload_n 0, 1) := by decide +kernel
theorem dX7_init_1 : decode cX7_init 1 = .ok (.invokespecial 1, 3) := by decide +kernel
theorem dX7_init_4 : decode cX7_init 4 = .ok (.aload_n 0, 1) := by decide +kernel
theorem dX7_init_5 : decode cX7_init 5 = .ok (.bipush 7, 2) := by decide +kernel
theorem dX7_init_7 : decode cX7_init 7 = .ok (.newarray .int, 2) := by decide +kernel
theorem dX7_init_9 : decode cX7_init 9 = .ok (.putfield 7, 3) := by decide +kernel
theorem dX7_init_12 : decode cX7_init 12 = .ok (.aload_n 0, 1) := by decide +kernel
theorem dX7_init_13 : decode cX7_init 13 = .ok (.sipush 180, 3) := by decide +kernel
theorem dX7_init_16 : decode cX7_init 16 = .ok (.newarray .int, 2) := by decide +kernel
theorem dX7_init_18 : decode cX7_init 18 = .ok (.putfield 13, 3) := by decide +kernel
theorem dX7_init_21 : decode cX7_init 21 = .ok (.aload_n 0, 1) := by decide +kernel
theorem dX7_init_22 : decode cX7_init 22 = .ok (.sipush 180, 3) := by decide +kernel
theorem dX7_init_25 : decode cX7_init 25 = .ok (.newarray .int, 2) := by decide +kernel
theorem dX7_init_27 : decode cX7_init 27 = .ok (.putfield 16, 3) := by decide +kernel
theorem dX7_init_30 : decode cX7_init 30 = .ok (.aload_n 0, 1) := by decide +kernel
theorem dX7_init_31 : decode cX7_init 31 = .ok (.bipush 7, 2) := by decide +kernel
theorem dX7_init_33 : decode cX7_init 33 = .ok (.newarray .int, 2) := by decide +kernel
theorem dX7_init_35 : decode cX7_init 35 = .ok (.putfield 19, 3) := by decide +kernel
theorem dX7_init_38 : decode cX7_init 38 = .ok (.aload_n 0, 1) := by decide +kernel
theorem dX7_init_39 : decode cX7_init 39 = .ok (.bipush 40, 2) := by decide +kernel
theorem dX7_init_41 : decode cX7_init 41 = .ok (.newarray .int, 2) := by decide +kernel
theorem dX7_init_43 : decode cX7_init 43 = .ok (.putfield 22, 3) := by decide +kernel
theorem dX7_init_46 : decode cX7_init 46 = .ok (.aload_n 0, 1) := by decide +kernel
theorem dX7_init_47 : decode cX7_init 47 = .ok (.bipush 40, 2) := by decide +kernel
theorem dX7_init_49 : decode cX7_init 49 = .ok (.newarray .int, 2) := by decide +kernel
theorem dX7_init_51 : decode cX7_init 51 = .ok (.putfield 25, 3) := by decide +kernel
theorem dX7_init_54 : decode cX7_init 54 = .ok (.aload_n 0, 1) := by decide +kernel
theorem dX7_init_55 : decode cX7_init 55 = .ok (.bipush 40, 2) := by decide +kernel
theorem dX7_init_57 : decode cX7_init 57 = .ok (.newarray .int, 2) := by decide +kernel
theorem dX7_init_59 : decode cX7_init 59 = .ok (.putfield 28, 3) := by decide +kernel
theorem dX7_init_62 : decode cX7_init 62 = .ok (.aload_n 0, 1) := by decide +kernel
theorem dX7_init_63 : decode cX7_init 63 = .ok (.bipush 40, 2) := by decide +kernel
theorem dX7_init_65 : decode cX7_init 65 = .ok (.newarray .int, 2) := by decide +kernel
theorem dX7_init_67 : decode cX7_init 67 = .ok (.putfield 31, 3) := by decide +kernel
theorem dX7_init_70 : decode cX7_init 70 = .ok (.aload_n 0, 1) := by decide +kernel
theorem dX7_init_71 : decode cX7_init 71 = .ok (.bipush 40, 2) := by decide +kernel
theorem dX7_init_73 : decode cX7_init 73 = .ok (.newarray .int, 2) := by decide +kernel
theorem dX7_init_75 : decode cX7_init 75 = .ok (.putfield 34, 3) := by decide +kernel
theorem dX7_init_78 : decode cX7_init 78 = .ok (.aload_n 0, 1) := by decide +kernel
theorem dX7_init_79 : decode cX7_init 79 = .ok (.bipush 40, 2) := by decide +kernel
theorem dX7_init_81 : decode cX7_init 81 = .ok (.newarray .int, 2) := by decide +kernel
theorem dX7_init_83 : decode cX7_init 83 = .ok (.putfield 37, 3) := by decide +kernel
theorem dX7_init_86 : decode cX7_init 86 = .ok (.aload_n 0, 1) := by decide +kernel
theorem dX7_init_87 : decode cX7_init 87 = .ok (.bipush 8, 2) := by decide +kernel
theorem dX7_init_89 : decode cX7_init 89 = .ok (.putfield 40, 3) := by decide +kernel
theorem dX7_init_92 : decode cX7_init 92 = .ok (.aload_n 0, 1) := by decide +kernel
theorem dX7_init_93 : decode cX7_init 93 = .ok (.bipush 40, 2) := by decide +kernel
theorem dX7_init_95 : decode cX7_init 95 = .ok (.newarray .long, 2) := by decide +kernel
theorem dX7_init_97 : decode cX7_init 97 = .ok (.putfield 44, 3) := by decide +kernel
theorem dX7_init_100 : decode cX7_init 100 = .ok (.aload_n 0, 1) := by decide +kernel
theorem dX7_init_101 : decode cX7_init 101 = .ok (.bipush 7, 2) := by decide +kernel
theorem dX7_init_103 : decode cX7_init 103 = .ok (.newarray .int, 2) := by decide +kernel
theorem dX7_init_105 : decode cX7_init 105 = .ok (.putfield 48, 3) := by decide +kernel
theorem dX7_init_108 : decode cX7_init 108 = .ok (.aload_n 0, 1) := by decide +kernel
theorem dX7_init_109 : decode cX7_init 109 = .ok (.bipush 7, 2) := by decide +kernel
theorem dX7_init_111 : decode cX7_init 111 = .ok (.newarray .int, 2) := by decide +kernel
theorem dX7_init_113 : decode cX7_init 113 = .ok (.putfield 51, 3) := by decide +kernel
theorem dX7_init_116 : decode cX7_init 116 = .ok (.aload_n 0, 1) := by decide +kernel
theorem dX7_init_117 : decode cX7_init 117 = .ok (.bipush 14, 2) := by decide +kernel
theorem dX7_init_119 : decode cX7_init 119 = .ok (.newarray .int, 2) := by decide +kernel
theorem dX7_init_121 : decode cX7_init 121 = .ok (.putfield 54, 3) := by decide +kernel
theorem dX7_init_124 : decode cX7_init 124 = .ok (.aload_n 0, 1) := by decide +kernel
theorem dX7_init_125 : decode cX7_init 125 = .ok (.bipush 14, 2) := by decide +kernel
theorem dX7_init_127 : decode cX7_init 127 = .ok (.newarray .int, 2) := by decide +kernel
theorem dX7_init_129 : decode cX7_init 129 = .ok (.putfield 57, 3) := by decide +kernel
theorem dX7_init_132 : decode cX7_init 132 = .ok (.aload_n 0, 1) := by decide +kernel
theorem dX7_init_133 : decode cX7_init 133 = .ok (.bipush 40, 2) := by decide +kernel
theorem dX7_init_135 : decode cX7_init 135 = .ok (.newarray .long, 2) := by decide +kernel
theorem dX7_init_137 : decode cX7_init 137 = .ok (.putfield 60, 3) := by decide +kernel
theorem dX7_init_140 : decode cX7_init 140 = .ok (.aload_n 0, 1) := by decide +kernel
theorem dX7_init_141 : decode cX7_init 141 = .ok (.bipush 36, 2) := by decide +kernel
theorem dX7_init_143 : decode cX7_init 143 = .ok (.newarray .int, 2) := by decide +kernel
theorem dX7_init_145 : decode cX7_init 145 = .ok (.putfield 63, 3) := by decide +kernel
theorem dX7_init_148 : decode cX7_init 148 = .ok (.aload_n 0, 1) := by decide +kernel
theorem dX7_init_149 : decode cX7_init 149 = .ok (.ldc 66, 2) := by decide +kernel
theorem dX7_init_151 : decode cX7_init 151 = .ok (.newarray .int, 2) := by decide +kernel
theorem dX7_init_153 : decode cX7_init 153 = .ok (.putfield 67, 3) := by decide +kernel
theorem dX7_init_156 : decode cX7_init 156 = .ok (.aload_n 0, 1) := by decide +kernel
theorem dX7_init_157 : decode cX7_init 157 = .ok (.ldc 66, 2) := by decide +kernel
theorem dX7_init_159 : decode cX7_init 159 = .ok (.newarray .int, 2) := by decide +kernel
theorem dX7_init_161 : decode cX7_init 161 = .ok (.putfield 70, 3) := by decide +kernel
theorem dX7_init_164 : decode cX7_init 164 = .ok (.aload_n 0, 1) := by decide +kernel
theorem dX7_init_165 : decode cX7_init 165 = .ok (.bipush 36, 2) := by decide +kernel
theorem dX7_init_167 : decode cX7_init 167 = .ok (.newarray .int, 2) := by decide +kernel
theorem dX7_init_169 : decode cX7_init 169 = .ok (.putfield 73, 3) := by decide +kernel
theorem dX7_init_172 : decode cX7_init 172 = .ok (.aload_n 0, 1) := by decide +kernel
theorem dX7_init_173 : decode cX7_init 173 = .ok (.sipush 224, 3) := by decide +kernel
theorem dX7_init_176 : decode cX7_init 176 = .ok (.newarray .int, 2) := by decide +kernel
theorem dX7_init_178 : decode cX7_init 178 = .ok (.putfield 76, 3) := by decide +kernel
theorem dX7_init_181 : decode cX7_init 181 = .ok (.aload_n 0, 1) := by decide +kernel
theorem dX7_init_182 : decode cX7_init 182 = .ok (.sipush 224, 3) := by decide +kernel
theorem dX7_init_185 : decode cX7_init 185 = .ok (.newarray .int, 2) := by decide +kernel
theorem dX7_init_187 : decode cX7_init 187 = .ok (.putfield 79, 3) := by decide +kernel
theorem dX7_init_190 : decode cX7_init 190 = .ok (.aload_n 0, 1) := by decide +kernel
theorem dX7_init_191 : decode cX7_init 191 = .ok (.bipush 7, 2) := by decide +kernel
theorem dX7_init_193 : decode cX7_init 193 = .ok (.newarray .int, 2) := by decide +kernel
theorem dX7_init_195 : decode cX7_init 195 = .ok (.putfield 82, 3) := by decide +kernel
theorem dX7_init_198 : decode cX7_init 198 = .ok (.aload_n 0, 1) := by decide +kernel
theorem dX7_init_199 : decode cX7_init 199 = .ok (.bipush 7, 2) := by decide +kernel
theorem dX7_init_201 : decode cX7_init 201 = .ok (.newarray .int, 2) := by decide +kernel
theorem dX7_init_203 : decode cX7_init 203 = .ok (.putfield 85, 3) := by decide +kernel
theorem dX7_init_206 : decode cX7_init 206 = .ok (.aload_n 0, 1) := by decide +kernel
theorem dX7_init_207 : decode cX7_init 207 = .ok (.bipush 12, 2) := by decide +kernel
theorem dX7_init_209 : decode cX7_init 209 = .ok (.newarray .int, 2) := by decide +kernel
theorem dX7_init_211 : decode cX7_init 211 = .ok (.putfield 88, 3) := by decide +kernel
theorem dX7_init_214 : decode cX7_init 214 = .ok (.aload_n 0, 1) := by decide +kernel
theorem dX7_init_215 : decode cX7_init 215 = .ok (.sipush 4096, 3) := by decide +kernel
theorem dX7_init_218 : decode cX7_init 218 = .ok (.newarray .boolean, 2) := by decide +kernel
theorem dX7_init_220 : decode cX7_init 220 = .ok (.putfield 91, 3) := by decide +kernel
theorem dX7_init_223 : decode cX7_init 223 = .ok (.aload_n 0, 1) := by decide +kernel
theorem dX7_init_224 : decode cX7_init 224 = .ok (.bipush 12, 2) := by decide +kernel
theorem dX7_init_226 : decode cX7_init 226 = .ok (.newarray .int, 2) := by decide +kernel
theorem dX7_init_228 : decode cX7_init 228 = .ok (.putfield 95, 3) := by decide +kernel
theorem dX7_init_231 : decode cX7_init 231 = .ok (.iconst 0, 1) := by decide +kernel
theorem dX7_init_232 : decode cX7_init 232 = .ok (.istore_n 1, 1) := by decide +kernel
theorem dX7_init_233 : decode cX7_init 233 = .ok (.iload_n 1, 1) := by decide +kernel
theorem dX7_init_234 : decode cX7_init 234 = .ok (.sipush 180, 3) := by decide +kernel
theorem dX7_init_237 : decode cX7_init 237 = .ok (.if_icmp .ge 17, 3) := by decide +kernel
theorem dX7_init_240 : decode cX7_init 240 = .ok (.aload_n 0, 1) := by decide +kernel
theorem dX7_init_241 : decode cX7_init 241 = .ok (.getfield 16, 3) := by decide +kernel
theorem dX7_init_244 : decode cX7_init 244 = .ok (.iload_n 1, 1) := by decide +kernel
theorem dX7_init_245 : decode cX7_init 245 = .ok (.bipush (-9), 2) := by decide +kernel
theorem dX7_init_247 : decode cX7_init 247 = .ok (.iastore, 1) := by decide +kernel
theorem dX7_init_248 : decode cX7_init 248 = .ok (.iinc 1 1, 3) := by decide +kernel
theorem dX7_init_251 : decode cX7_init 251 = .ok (.goto (-18), 3) := by decide +kernel
theorem dX7_init_254 : decode cX7_init 254 = .ok (.return_, 1) := by decide +kernel
theorem dX7_refuse_0 : decode cX7_refuse 0 = .ok (.aload_n 0, 1) := by decide +kernel
theorem dX7_refuse_1 : decode cX7_refuse 1 = .ok (.getfield 7, 3) := by decide +kernel
theorem dX7_refuse_4 : decode cX7_refuse 4 = .ok (.iload_n 1, 1) := by decide +kernel
theorem dX7_refuse_5 : decode cX7_refuse 5 = .ok (.ineg, 1) := by decide +kernel
theorem dX7_refuse_6 : decode cX7_refuse 6 = .ok (.dup2, 1) := by decide +kernel
theorem dX7_refuse_7 : decode cX7_refuse 7 = .ok (.iaload, 1) := by decide +kernel
theorem dX7_refuse_8 : decode cX7_refuse 8 = .ok (.iconst 1, 1) := by decide +kernel
theorem dX7_refuse_9 : decode cX7_refuse 9 = .ok (.iadd, 1) := by decide +kernel
theorem dX7_refuse_10 : decode cX7_refuse 10 = .ok (.iastore, 1) := by decide +kernel
theorem dX7_refuse_11 : decode cX7_refuse 11 = .ok (.iload_n 1, 1) := by decide +kernel
theorem dX7_refuse_12 : decode cX7_refuse 12 = .ok (.ireturn, 1) := by decide +kernel
theorem dX7_isIn_0 : decode cX7_isIn 0 = .ok (.iload_n 0, 1) := by decide +kernel
theorem dX7_isIn_1 : decode cX7_isIn 1 = .ok (.ifCond .lt 12, 3) := by decide +kernel
theorem dX7_isIn_4 : decode cX7_isIn 4 = .ok (.iload_n 0, 1) := by decide +kernel
theorem dX7_isIn_5 : decode cX7_isIn 5 = .ok (.iload_n 1, 1) := by decide +kernel
theorem dX7_isIn_6 : decode cX7_isIn 6 = .ok (.if_icmp .ge 7, 3) := by decide +kernel
theorem dX7_isIn_9 : decode cX7_isIn 9 = .ok (.iconst 1, 1) := by decide +kernel
theorem dX7_isIn_10 : decode cX7_isIn 10 = .ok (.goto 4, 3) := by decide +kernel
theorem dX7_isIn_13 : decode cX7_isIn 13 = .ok (.iconst 0, 1) := by decide +kernel
theorem dX7_isIn_14 : decode cX7_isIn 14 = .ok (.ireturn, 1) := by decide +kernel
theorem dX7_isCell_0 : decode cX7_isCell 0 = .ok (.iload_n 0, 1) := by decide +kernel
theorem dX7_isCell_1 : decode cX7_isCell 1 = .ok (.bipush 6, 2) := by decide +kernel
theorem dX7_isCell_3 : decode cX7_isCell 3 = .ok (.invokestatic 98, 3) := by decide +kernel
theorem dX7_isCell_6 : decode cX7_isCell 6 = .ok (.ifCond .eq 24, 3) := by decide +kernel
theorem dX7_isCell_9 : decode cX7_isCell 9 = .ok (.iload_n 1, 1) := by decide +kernel
theorem dX7_isCell_10 : decode cX7_isCell 10 = .ok (.bipush 6, 2) := by decide +kernel
theorem dX7_isCell_12 : decode cX7_isCell 12 = .ok (.invokestatic 98, 3) := by decide +kernel
theorem dX7_isCell_15 : decode cX7_isCell 15 = .ok (.ifCond .eq 15, 3) := by decide +kernel
theorem dX7_isCell_18 : decode cX7_isCell 18 = .ok (.iload_n 2, 1) := by decide +kernel
theorem dX7_isCell_19 : decode cX7_isCell 19 = .ok (.iconst 5, 1) := by decide +kernel
theorem dX7_isCell_20 : decode cX7_isCell 20 = .ok (.invokestatic 98, 3) := by decide +kernel
theorem dX7_isCell_23 : decode cX7_isCell 23 = .ok (.ifCond .eq 7, 3) := by decide +kernel
theorem dX7_isCell_26 : decode cX7_isCell 26 = .ok (.iconst 1, 1) := by decide +kernel
theorem dX7_isCell_27 : decode cX7_isCell 27 = .ok (.goto 4, 3) := by decide +kernel
theorem dX7_isCell_30 : decode cX7_isCell 30 = .ok (.iconst 0, 1) := by decide +kernel
theorem dX7_isCell_31 : decode cX7_isCell 31 = .ok (.ireturn, 1) := by decide +kernel
theorem dX7_cellAt_0 : decode cX7_cellAt 0 = .ok (.bipush 36, 2) := by decide +kernel
theorem dX7_cellAt_2 : decode cX7_cellAt 2 = .ok (.iload_n 2, 1) := by decide +kernel
theorem dX7_cellAt_3 : decode cX7_cellAt 3 = .ok (.imul, 1) := by decide +kernel
theorem dX7_cellAt_4 : decode cX7_cellAt 4 = .ok (.bipush 6, 2) := by decide +kernel
theorem dX7_cellAt_6 : decode cX7_cellAt 6 = .ok (.iload_n 1, 1) := by decide +kernel
theorem dX7_cellAt_7 : decode cX7_cellAt 7 = .ok (.imul, 1) := by decide +kernel
theorem dX7_cellAt_8 : decode cX7_cellAt 8 = .ok (.iadd, 1) := by decide +kernel
theorem dX7_cellAt_9 : decode cX7_cellAt 9 = .ok (.iload_n 0, 1) := by decide +kernel
theorem dX7_cellAt_10 : decode cX7_cellAt 10 = .ok (.iadd, 1) := by decide +kernel
theorem dX7_cellAt_11 : decode cX7_cellAt 11 = .ok (.ireturn, 1) := by decide +kernel
theorem dX7_wrong_0 : decode cX7_wrong 0 = .ok (.iload_n 0, 1) := by decide +kernel
theorem dX7_wrong_1 : decode cX7_wrong 1 = .ok (.iload_n 1, 1) := by decide +kernel
theorem dX7_wrong_2 : decode cX7_wrong 2 = .ok (.if_icmp .ge 8, 3) := by decide +kernel
theorem dX7_wrong_5 : decode cX7_wrong 5 = .ok (.bipush (-4), 2) := by decide +kernel
theorem dX7_wrong_7 : decode cX7_wrong 7 = .ok (.goto 14, 3) := by decide +kernel
theorem dX7_wrong_10 : decode cX7_wrong 10 = .ok (.iload_n 0, 1) := by decide +kernel
theorem dX7_wrong_11 : decode cX7_wrong 11 = .ok (.iload_n 2, 1) := by decide +kernel
theorem dX7_wrong_12 : decode cX7_wrong 12 = .ok (.if_icmp .le 8, 3) := by decide +kernel
theorem dX7_wrong_15 : decode cX7_wrong 15 = .ok (.bipush (-6), 2) := by decide +kernel
theorem dX7_wrong_17 : decode cX7_wrong 17 = .ok (.goto 4, 3) := by decide +kernel
theorem dX7_wrong_20 : decode cX7_wrong 20 = .ok (.iconst 0, 1) := by decide +kernel
theorem dX7_wrong_21 : decode cX7_wrong 21 = .ok (.ireturn, 1) := by decide +kernel
